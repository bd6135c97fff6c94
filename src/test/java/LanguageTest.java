import java.io.IOException;
import java.lang.reflect.Constructor;
import java.lang.reflect.Field;
import java.lang.reflect.Method;
import java.lang.reflect.Modifier;
import java.nio.charset.StandardCharsets;
import java.nio.file.Files;
import java.nio.file.Path;
import java.util.Arrays;
import java.util.Set;
import java.util.TreeSet;
import java.util.regex.Matcher;
import java.util.regex.Pattern;
import java.util.stream.Collectors;

/** The face of the document, and those rules of LANGUAGE.md that can be seen without reading. */
public final class LanguageTest {
    private static final String FACE = "int feed(int,int,int,int,int)|int end(int)|int part()|int fault(int)|int told(int)"
            + "|int begin(int)|int held(int)|int byRow()|int height(int,int)|int lobe(int,int)|int wrong(int)|int slope(int)"
            + "|int old(int)|int was(int,int)|int keep(int,int,int)|int file(int,int,int)|int share(int)|int shared(int)"
            + "|int box()|int teeth(int)|int train(int,int,int)|int wheel(int)|long off(boolean)|int spare(int,int)"
            + "|long worn(int,int)|int gauge(int,int,int,int)|int right(int,int,int)|int fit(int,int)|int cause(int,int)"
            + "|int tells(int,int,int)|int surelyWorn(int,int)|int surelyDull(int,int)|int next()|int halt(int,int)"
            + "|int bin(int,int,int)|int count(int)";
    private static final String[] FORBIDDEN = {"throw", "throws", "try", "catch", "synchronized", "assert", "protected",
        "String", "System\\.(?!arraycopy)", "Exact", "->", "::", "MAX_VALUE", "MIN_VALUE", "double", "float", "@",
        "Arrays\\.(?!fill|copyOf)", "extends", "yield", "var", "native", "transient", "volatile", "hashCode", "equals"};

    private static void isTrue(String what, boolean is) {
        Bench.is(what, is ? 1 : 0, 1);
    }

    private static String signature(Method method) {
        String types = Arrays.stream(method.getParameterTypes()).map(Class::getName).collect(Collectors.joining(","));
        return method.getReturnType().getName() + " " + method.getName() + "(" + types + ")";
    }

    private static void face() throws IllegalAccessException {
        Class<?> shop = DiscLathe.class;
        isTrue("public final", shop.getModifiers() == (Modifier.PUBLIC | Modifier.FINAL));
        Set<String> due = new TreeSet<>(Arrays.asList(FACE.split("\\|")));
        Set<String> found = new TreeSet<>();
        Set<String> publicNames = new TreeSet<>();
        for (Method method : shop.getDeclaredMethods()) {
            if (method.getModifiers() == Modifier.PUBLIC) {
                found.add(signature(method));
                publicNames.add(method.getName());
            } else {
                isTrue(method.getName() + " is private", method.isSynthetic() || Modifier.isPrivate(method.getModifiers()));
            }
        }
        isTrue("the face's methods: " + found, due.equals(found));
        for (Constructor<?> one : shop.getDeclaredConstructors()) {
            isTrue("one constructor", one.getModifiers() == Modifier.PUBLIC && one.getParameterCount() == 0);
        }
        Set<String> constants = new TreeSet<>();
        for (Field field : shop.getDeclaredFields()) {
            if (Modifier.isPrivate(field.getModifiers())) continue;
            isTrue("constant", field.getModifiers() == (Modifier.PUBLIC | Modifier.STATIC | Modifier.FINAL));
            constants.add(field.getName() + field.getInt(null));
        }
        isTrue("the face's constants: " + constants, constants.equals(Set.of("NONE-1", "RANGE-2", "FULL-3", "STATE-4")));
        for (Class<?> inside : shop.getDeclaredClasses()) {
            isTrue(inside + " is static", Modifier.isStatic(inside.getModifiers()) && !Modifier.isPublic(inside.getModifiers()));
            isTrue(inside + " has few fields", Arrays.stream(inside.getDeclaredFields())
                    .filter(f -> !Modifier.isStatic(f.getModifiers())).count() <= 20);
            isTrue(inside + " has no class inside", inside.getDeclaredClasses().length == 0);
            for (Method method : inside.getDeclaredMethods()) {
                isTrue(inside + " has a method with a public name: " + method.getName(), !publicNames.contains(method.getName()));
            }
        }
        isTrue("few classes", shop.getDeclaredClasses().length + 1 <= 12);
    }

    private static void statics() {
        Class<?>[] inside = DiscLathe.class.getDeclaredClasses();
        Class<?>[] all = Arrays.copyOf(inside, inside.length + 1);
        all[inside.length] = DiscLathe.class;
        for (Class<?> one : all) {
            for (Field field : one.getDeclaredFields()) {
                boolean isConstant = Modifier.isFinal(field.getModifiers()) && field.getType().isPrimitive();
                isTrue(field + " is a constant", !Modifier.isStatic(field.getModifiers()) || isConstant);
            }
            for (Method method : one.getDeclaredMethods()) {
                isTrue(method + " takes seven at most", method.getParameterCount() <= 7);
            }
        }
    }

    private static void source() throws IOException {
        String text = Files.readString(Path.of("src/main/java/DiscLathe.java"), StandardCharsets.ISO_8859_1);
        isTrue("plain signs", text.chars().allMatch(c -> c == '\n' || c >= 32 && c < 127));
        String code = text.replaceAll("(?s)/\\*.*?\\*/", "").replaceAll("//[^\n]*", "");
        for (String word : FORBIDDEN) {
            String edge = Character.isLetter(word.charAt(0)) ? "\\b" : "";
            String end = Character.isLetter(word.charAt(word.length() - 1)) ? "\\b" : "";
            Matcher found = Pattern.compile(edge + word + end).matcher(code);
            isTrue("no " + word, !found.find());
        }
        Matcher imports = Pattern.compile("import ([^;]*);").matcher(code);
        while (imports.find()) isTrue("import " + imports.group(1), imports.group(1).equals("java.util.Arrays"));
        isTrue("no package", !Pattern.compile("(?m)^package").matcher(code).find());
        Matcher fresh = Pattern.compile("new [A-Za-z]+\\[").matcher(code);
        int arrays = 0;
        while (fresh.find()) arrays++;
        Matcher fields = Pattern.compile("(?m)^ {8}(private )?final [a-z]+(\\[\\])+ \\w+ = new ").matcher(code);
        int rows = 0;
        while (fields.find()) rows++;
        Bench.is("arrays are made by constructors alone", arrays, rows);
        methodLengths(code);
        divisors(code);
    }

    /** Rule 7: a divisor that isn't a constant is tested in the method that divides by it. */
    private static void divisors(String code) {
        int divisions = 0;
        for (String body : code.split("\n {4,8}\\}\n")) {
            Matcher found = Pattern.compile("[/%]=? *(\\(?)([\\w.]+)").matcher(body);
            while (found.find()) {
                divisions++;
                String divisor = found.group(2);
                boolean isConstant = divisor.matches("[1-9][0-9]*|[A-Z_]+");
                String name = Pattern.quote(divisor);
                boolean isTested = found.group(1).isEmpty() && Pattern.compile("\\b" + name + " (<=|>|!=|==) 0\\b"
                        + "|\\b" + name + " < 1\\b|\\b" + name + " = Math\\.max\\(1,").matcher(body).find();
                isTrue("a tested divisor: " + divisor, isConstant || isTested);
            }
        }
        isTrue("divisions were found", divisions > 20);
    }

    private static void methodLengths(String code) {
        int start = -1;
        String indent = "";
        String[] lines = code.split("\n");
        for (int n = 0; n < lines.length; n++) {
            Matcher head = Pattern.compile("^( {4}| {8})(?! )(?!.*class ).*\\) \\{$").matcher(lines[n]);
            if (start < 0 && head.matches()) {
                start = n;
                indent = head.group(1);
            } else if (start >= 0 && lines[n].equals(indent + "}")) {
                isTrue("short: " + lines[start].trim(), n - start < 60);
                start = -1;
            }
        }
    }

    public static void main(String[] args) throws Exception {
        face();
        statics();
        source();
        Bench.closeTest("LanguageTest");
    }
}
