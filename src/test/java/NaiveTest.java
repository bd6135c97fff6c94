import java.util.Random;

/** Random runs of calls, each answer compared with that of the naive model. */
public final class NaiveTest {
    private static int wrong = 0;
    private static int calls = 0;

    private final Random random;
    private final DiscLathe shop = new DiscLathe();
    private final Naive naive = new Naive();
    private final StringBuilder log = new StringBuilder();
    private boolean isWrong = false;

    private NaiveTest(long seed) {
        random = new Random(seed);
        log.append("seed ").append(seed).append('\n');
    }

    private void same(String call, long got, long want) {
        calls++;
        log.append(call).append(" = ").append(got).append('\n');
        if (got != want && !isWrong) {
            isWrong = true;
            wrong++;
            System.out.println(log + "due is " + want);
        }
    }

    private void tape(String text) {
        byte[] bytes = Naive.bytes(text);
        same("end(0)", shop.end(0), naive.end(0));
        int[] w = new int[5];
        for (int at = 0; at < bytes.length; at += 20) {
            for (int n = 0; n < 5; n++) {
                w[n] = 0;
                for (int b = 0; b < 4; b++) {
                    int from = at + 4 * n + b;
                    w[n] = w[n] << 8 | (from < bytes.length ? bytes[from] & 255 : 0);
                }
            }
            same("feed", shop.feed(w[0], w[1], w[2], w[3], w[4]), naive.feed(w[0], w[1], w[2], w[3], w[4]));
        }
        same("end " + text, shop.end(bytes.length), naive.end(bytes.length));
    }

    private int roll(int least, int most) { return least + random.nextInt(most - least + 1); }

    private String blanks(boolean isNeeded) {
        StringBuilder blanks = new StringBuilder(isNeeded ? " " : "");
        while (random.nextInt(12) == 0) blanks.append(random.nextBoolean() ? ' ' : '\n');
        return blanks.toString();
    }

    /** A text that mostly is a PART; TURNS small or great. */
    private String text(boolean isSmall) {
        StringBuilder text = new StringBuilder(blanks(false));
        int tools = roll(0, 10) == 0 ? roll(0, 7) : roll(1, isSmall ? 3 : 6);
        int steps = tools == 0 ? 0 : roll(0, 10) == 0 ? roll(0, 8) : roll(2, isSmall ? 5 : 7);
        String[] names = {"a", "tool", "step", "zzzzzzzz", "q", "rr", "idle"};
        for (int t = 0; t < tools; t++) {
            int feed = isSmall ? 1 : roll(1, roll(0, 3) == 0 ? 50 : 5);
            text.append("tool").append(blanks(true)).append(names[t]).append(blanks(false)).append(feed)
                    .append(blanks(true)).append(roll(0, 2) == 0 ? roll(1, 60) : roll(1, 9)).append(blanks(false)).append(';');
        }
        for (int k = 0; k < steps; k++) {
            int rise = isSmall ? roll(1, 3) : roll(1, roll(0, 2) == 0 ? 400 : 60);
            text.append("step ").append(names[roll(0, tools - 1)]).append(blanks(false)).append(rise);
            if (roll(0, 2) == 0) text.append(' ').append(isSmall ? roll(0, 2) : roll(0, 99));
            text.append(blanks(false)).append(";").append(blanks(false));
        }
        for (int n = roll(0, 2 * steps / 2); n > 0 && steps > 1; n--) {
            int b = roll(1, steps - 1);
            String pair = "after " + roll(0, b - 1) + " " + b + ";";
            if (text.indexOf(pair) < 0 || roll(0, 20) == 0) text.append(pair);
        }
        for (int n = roll(0, tools); n > 0 && tools > 1; n--) {
            String a = names[roll(0, tools - 1)];
            String b = names[roll(0, tools - 1)];
            boolean isNew = !a.equals(b) && text.indexOf("meet " + a + " " + b + ";") < 0
                    && text.indexOf("meet " + b + " " + a + ";") < 0;
            if (isNew || roll(0, 20) == 0) text.append("meet ").append(a).append(' ').append(b).append(';');
        }
        if (roll(0, 2) > 0) text.append("idle ").append(roll(0, 3) == 0 ? 0 : roll(0, 40)).append(";");
        return text.toString();
    }

    private String spoil(String text) {
        StringBuilder spoilt = new StringBuilder(text);
        String[] bits = {";", " ", "0", "9", "x", "7 ", "100", "1 1", "tool a 1 1;", "idle 3;", "after 0 1;",
            "step a 1;", "meet a q;", "\t", "A", "\u00e9", "aaaaaaaa", "00000", "step", "401", "61", ";;", "after 1 0;"};
        int at = roll(0, spoilt.length());
        int until = roll(0, 1) == 0 ? at : Math.min(spoilt.length(), at + roll(0, 3));
        spoilt.replace(at, until, roll(0, 5) == 0 ? "" : bits[roll(0, bits.length - 1)]);
        if (roll(0, 5) == 0) spoilt.setLength(roll(0, spoilt.length()));
        return spoilt.length() > 800 ? spoilt.substring(0, 800) : spoilt.toString();
    }

    private void readPart(String text) {
        String fits = text.length() > 800 ? text.substring(0, 800) : text;
        tape(fits);
        same("part", shop.part(), naive.part());
        same("fault 0", shop.fault(0), naive.fault(0));
        same("fault 1", shop.fault(1), naive.fault(1));
        same("tape", shop.count(3), naive.count(3));
        same("clauses", shop.count(0), naive.count(0));
    }

    private void lookAtPlan() {
        for (int what = -1; what < 80; what++) same("told " + what, shop.told(what), naive.told(what));
        for (int k = -1; k < 8; k++) {
            same("begin " + k, shop.begin(k), naive.begin(k));
            same("held " + k, shop.held(k), naive.held(k));
            for (int what = -1; what < 6; what++) same("lobe " + k + " " + what, shop.lobe(k, what), naive.lobe(k, what));
        }
        for (int what = -1; what < 3; what++) same("wrong " + what, shop.wrong(what), naive.wrong(what));
        for (int t = -1; t < 7; t++) {
            same("slope " + t, shop.slope(t), naive.slope(t));
            for (int m = -1; m < 101; m += roll(1, 5)) same("height " + t + " " + m, shop.height(t, m), naive.height(t, m));
        }
    }

    private void rows() {
        int n = naive.part.steps.size();
        for (int round = 0; round < 6; round++) {
            StringBuilder row = new StringBuilder();
            for (int k = 0; k < n; k++) row.append((char) ('0' + k));
            for (int k = n - 1; k > 0; k--) {
                int other = roll(0, k);
                char was = row.charAt(k);
                row.setCharAt(k, row.charAt(other));
                row.setCharAt(other, was);
            }
            if (roll(0, 9) == 0) row.append('0');
            if (roll(0, 9) == 0 && n > 0) row.setCharAt(roll(0, n - 1), (char) roll(0, 255));
            tape(row.toString());
            same("byRow", shop.byRow(), naive.byRow());
        }
    }

    private void oldDiscs() {
        for (int n = roll(0, 4); n > 0; n--) {
            StringBuilder row = new StringBuilder();
            int flat = roll(0, 4) * 100;
            for (int m = 0; m < 100; m++) {
                int h = Math.min(999, flat + roll(0, roll(0, 5) == 0 ? 500 : 120));
                row.append((char) (48 + h / 100)).append((char) (48 + h % 100));
            }
            if (roll(0, 6) == 0) row.setCharAt(roll(0, 199), (char) roll(0, 255));
            if (roll(0, 9) == 0) row.setLength(roll(0, 199));
            tape(row.toString());
            int k = roll(0, 9) == 0 ? roll(-1, 4) : roll(0, 3);
            same("old " + k, shop.old(k), naive.old(k));
        }
        for (int n = roll(0, 3); n > 0; n--) {
            int t = roll(0, 5);
            int k = roll(0, 3);
            int base = roll(0, 9) == 0 ? roll(-1, 501) : roll(0, 40);
            same("keep " + t + " " + k + " " + base, shop.keep(t, k, base), naive.keep(t, k, base));
        }
        for (int n = 0; n < 10; n++) {
            int k = roll(-1, 4);
            int m = roll(-1, 100);
            same("was", shop.was(k, m), naive.was(k, m));
            int t = roll(-1, 6);
            int what = roll(-1, 3);
            same("file " + t + " " + k + " " + what, shop.file(t, k, what), naive.file(t, k, what));
        }
        for (int n = 0; n < 2; n++) {
            int price = roll(0, 9) == 0 ? roll(99998, 100001) : roll(0, 9) == 0 ? roll(-1, 0) : roll(0, 20000);
            same("share " + price, shop.share(price), naive.share(price));
            for (int t = -1; t < 8; t++) same("shared " + t, shop.shared(t), naive.shared(t));
        }
    }

    private void wheels() {
        StringBuilder box = new StringBuilder(blanks(false));
        int most = roll(0, 9) == 0 ? 10 : 6;
        for (int n = roll(0, 12) == 0 ? 11 : roll(0, most); n > 0; n--) {
            box.append(roll(0, 20) == 0 ? roll(5, 210) : roll(0, 1) == 0 ? 10 * roll(1, 9) : roll(10, 200));
            box.append(n == 1 ? "" : blanks(true));
        }
        if (roll(0, 20) == 0) box.append(";");
        tape(box.toString());
        same("box", shop.box(), naive.box());
        for (int n = 0; n < 4; n++) {
            int p = roll(0, 20) == 0 ? roll(0, 10001) : roll(1, roll(0, 1) == 0 ? 12 : 9999);
            int q = roll(0, 20) == 0 ? roll(0, 10001) : roll(1, roll(0, 1) == 0 ? 12 : 9999);
            int without = roll(0, 2) == 0 ? roll(-2, most + 1) : -1;
            same("train " + p + " " + q + " " + without, shop.train(p, q, without), naive.train(p, q, without));
            same("spare " + p + " " + q, shop.spare(p, q), naive.spare(p, q));
            for (int i = -1; i < 5; i++) {
                same("wheel " + i, shop.wheel(i), naive.wheel(i));
                int fewer = roll(0, 10);
                same("worn " + i + " " + fewer, shop.worn(i, fewer), naive.worn(i, fewer));
                same("teeth " + i, shop.teeth(i), naive.teeth(i));
            }
            same("off upper", shop.off(false), naive.off(false));
            same("off lower", shop.off(true), naive.off(true));
        }
    }

    private void gauges() {
        int causes = naive.count(4);
        int truth = roll(0, causes - 1);
        int stage = 0;
        for (int n = roll(0, roll(0, 9) == 0 ? 45 : 7); n > 0; n--) {
            stage += roll(0, 2);
            int told = roll(0, 15) == 0 ? stage - 2 : stage;
            int i = roll(0, 20) == 0 ? roll(-1, 40) : roll(0, roll(0, 1) == 0 ? 12 : 39);
            int s = roll(0, 20) == 0 ? roll(-1, 8) : roll(0, 6);
            int by = roll(0, 9) == 0 ? roll(-100, 100) : Math.max(-100, naive.tells(truth, i, s)) + (roll(0, 12) == 0 ? 1 : 0);
            if (roll(0, 3) > 0) {
                same("gauge " + told + " " + i + " " + s + " " + by, shop.gauge(told, i, s, by), naive.gauge(told, i, s, by));
            } else {
                int k = roll(-1, naive.gauged.size());
                int[] one = k >= 0 && k < naive.gauged.size() ? naive.gauged.get(k) : null;
                int due = one == null ? by : naive.tells(truth, one[1], one[2]);
                same("right " + told + " " + k + " " + due, shop.right(told, k, due), naive.right(told, k, due));
            }
        }
        boolean isNextFirst = roll(0, 1) == 0;
        if (isNextFirst) same("next", shop.next(), naive.next());
        for (int n = 0; n < 4; n++) {
            int known = roll(0, 12) == 0 ? roll(-1, 1001) : roll(0, stage + 1);
            same("fit " + known + " 0", shop.fit(known, 0), naive.fit(known, 0));
            same("fit " + known + " 1", shop.fit(known, 1), naive.fit(known, 1));
            int t = roll(-1, 6);
            same("surelyWorn " + t + " " + known, shop.surelyWorn(t, known), naive.surelyWorn(t, known));
            same("surelyDull " + t + " " + known, shop.surelyDull(t, known), naive.surelyDull(t, known));
            int limit = roll(0, 9) == 0 ? roll(-1, 101) : roll(0, roll(0, 1) == 0 ? 8 : 55);
            same("halt " + limit + " " + known, shop.halt(limit, known), naive.halt(limit, known));
            int i = roll(0, 9) == 0 ? roll(-1, 41) : roll(0, 39);
            same("bin " + i + " " + limit + " " + known, shop.bin(i, limit, known), naive.bin(i, limit, known));
            int number = roll(0, 9) == 0 ? roll(-1, 60000) : roll(0, causes - 1);
            for (int what = -1; what < 7; what++) same("cause " + number + " " + what, shop.cause(number, what), naive.cause(number, what));
            same("tells " + number + " " + i + " " + t, shop.tells(number, i, t), naive.tells(number, i, t));
        }
        if (!isNextFirst) same("next", shop.next(), naive.next());
        for (int what = -1; what < 6; what++) same("count " + what, shop.count(what), naive.count(what));
    }

    private void run() {
        for (int round = roll(1, 2); round > 0; round--) {
            boolean isSmall = roll(0, 2) > 0;
            for (int n = roll(0, 2); n > 0; n--) readPart(spoil(text(isSmall)));
            readPart(text(isSmall));
            lookAtPlan();
            rows();
            oldDiscs();
            wheels();
            gauges();
            readPart(spoil(text(isSmall)));
            lookAtPlan();
            gauges();
        }
    }

    public static void main(String[] args) {
        int runs = args.length > 0 ? Integer.parseInt(args[0]) : 150;
        long first = args.length > 1 ? Long.parseLong(args[1]) : 1;
        for (long seed = first; seed < first + runs && wrong < 5; seed++) new NaiveTest(seed).run();
        System.out.println(runs + " runs, " + calls + " calls, " + wrong + " wrong runs");
        if (wrong != 0) System.exit(1);
    }
}
