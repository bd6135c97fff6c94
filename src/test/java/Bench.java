import java.nio.charset.StandardCharsets;

/** What the tests share: a shop that takes texts, and a count of wrong answers. */
final class Bench {
    private static int checks = 0;
    private static int wrong = 0;

    final DiscLathe shop = new DiscLathe();

    static void is(String what, long got, long want) {
        checks++;
        if (got != want) {
            wrong++;
            System.out.println(what + ": answered " + got + ", due is " + want);
        }
    }

    static void closeTest(String name) {
        System.out.println(name + ": " + checks + " checks, " + wrong + " wrong");
        if (wrong != 0) {
            System.exit(1);
        }
    }

    /** Puts a text behind what is on the tape. */
    Bench tape(String text) {
        byte[] bytes = text.getBytes(StandardCharsets.ISO_8859_1);
        int before = shop.count(3);
        for (int at = 0; at < bytes.length; at += 20) {
            int[] words = new int[5];
            for (int n = 0; n < 20; n++) {
                int one = at + n < bytes.length ? bytes[at + n] & 255 : 0;
                words[n / 4] = words[n / 4] << 8 | one;
            }
            shop.feed(words[0], words[1], words[2], words[3], words[4]);
        }
        is("end of " + text, shop.end(before + bytes.length), before + bytes.length);
        return this;
    }

    int part(String text) {
        return tape(text).shop.part();
    }

    /** A bench whose part is told, which must be one. */
    static Bench with(String text) {
        Bench bench = new Bench();
        int clauses = (int) text.chars().filter(c -> c == ';').count();
        is("part " + text, bench.part(text), clauses);
        return bench;
    }

    /** A text that on a new shop is no part, with its fault; the next part has none. */
    static void isFault(String text, int kind, int place) {
        Bench bench = new Bench();
        is("part " + text, bench.part(text), -1);
        is("kind of " + text, bench.shop.fault(0), kind);
        is("place of " + text, bench.shop.fault(1), place);
        is("another number of a fault", bench.shop.fault(2), -1);
        is("another number of a fault", bench.shop.fault(-1), -1);
        is("tape behind a fault", bench.shop.count(3), 0);
        is("part behind a fault", bench.part(""), 0);
        is("kind without a fault", bench.shop.fault(0), 0);
        is("place without a fault", bench.shop.fault(1), -1);
    }

    int byRow(String row) {
        return tape(row).shop.byRow();
    }

    int box(String text) {
        return tape(text).shop.box();
    }

    int old(int k, int[] heights) {
        StringBuilder row = new StringBuilder();
        for (int height : heights) {
            row.append((char) (48 + height / 100)).append((char) (48 + height % 100));
        }
        return tape(row.toString()).shop.old(k);
    }

    static int[] flat(int height) {
        int[] heights = new int[100];
        java.util.Arrays.fill(heights, height);
        return heights;
    }
}
