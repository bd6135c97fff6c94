import java.io.IOException;
import java.lang.reflect.Field;
import java.lang.reflect.Method;
import java.lang.reflect.Modifier;
import java.nio.charset.StandardCharsets;
import java.nio.file.DirectoryStream;
import java.nio.file.Files;
import java.nio.file.Path;
import java.util.HashMap;
import java.util.Map;
import java.util.regex.Matcher;
import java.util.regex.Pattern;

/** README.md: its example answers as it says, and it names every call and every constant of the face. */
public final class ReadmeTest {
    private static final Pattern BLOCK = Pattern.compile("(?s)```java\n(.*?)```");
    private static final Pattern CALL = Pattern.compile("shop\\.(\\w+)\\((.*?)\\); +// (-?[0-9]+).*");

    public static void main(String[] args) throws Exception {
        String page = Files.readString(Path.of("README.md"), StandardCharsets.UTF_8);
        example(page);
        names(page);
        Bench.closeTest("ReadmeTest");
    }

    private static void example(String page) throws ReflectiveOperationException {
        Matcher block = BLOCK.matcher(page);
        Bench.is("an example", block.find() ? 1 : 0, 1);
        Map<String, Method> face = new HashMap<>();
        for (Method method : DiscLathe.class.getMethods()) face.put(method.getName(), method);
        DiscLathe shop = new DiscLathe();
        for (String line : block.group(1).split("\n")) {
            if (!line.startsWith("shop.")) continue;
            Matcher call = CALL.matcher(line);
            Bench.is("a call with its answer: " + line, call.matches() ? 1 : 0, 1);
            Number answer = (Number) face.get(call.group(1)).invoke(shop, numbers(call.group(2)));
            Bench.is(line, answer.longValue(), Long.parseLong(call.group(3)));
        }
    }

    private static Object[] numbers(String text) {
        if (text.isEmpty()) return new Object[0];
        String[] each = text.split(", ");
        Object[] numbers = new Object[each.length];
        for (int n = 0; n < each.length; n++) {
            boolean isTruth = each[n].equals("true") || each[n].equals("false");
            numbers[n] = isTruth ? (Object) each[n].equals("true") : (Object) Integer.decode(each[n]);
        }
        return numbers;
    }

    private static void names(String page) throws IllegalAccessException, IOException {
        for (Method method : DiscLathe.class.getDeclaredMethods()) {
            boolean isNamed = page.contains("`" + method.getName() + "`");
            Bench.is("README names " + method.getName(), isNamed || !Modifier.isPublic(method.getModifiers()) ? 1 : 0, 1);
        }
        for (Field field : DiscLathe.class.getFields()) {
            String constant = "`" + field.getName() + "` (" + field.getInt(null) + ")";
            Bench.is("README tells " + constant, page.contains(constant) ? 1 : 0, 1);
        }
        try (DirectoryStream<Path> tests = Files.newDirectoryStream(Path.of("src/test/java"), "*Test.java")) {
            for (Path test : tests) {
                String name = test.getFileName().toString().replace(".java", "");
                Bench.is("README names " + name, page.contains("`" + name + "`") ? 1 : 0, 1);
            }
        }
    }
}
