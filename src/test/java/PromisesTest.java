/** One method for each promise: ordinary inputs, edges, wrong inputs; what is due is worked out by hand. */
public final class PromisesTest {
    private static final int NONE = -1;
    private static final int RANGE = -2;
    private static final int FULL = -3;
    private static final int STATE = -4;

    /** One TOOL, one STEP: 5 * 61 * 5 CAUSES. */
    private static final String ONE = "tool a 1 1; step a 1;";
    /** STEP 1 first is best: STEP 2 waits for it, and STEP 0 has the same TOOL. */
    private static final String TURNED = "tool a 1 1; tool b 1 1; step a 1; step a 2; step b 5; after 1 2;";
    /** STEP 1 goes round beyond MARK 99. */
    private static final String ROUND = "tool a 1 1; tool b 1 1; step a 10; step b 10; after 0 1; idle 0;";

    public static void main(String[] args) {
        promise1();
        promise2();
        promise3();
        promise4();
        promise5Syntax();
        promise5Meaning();
        promise6();
        promise7();
        promise8();
        promise9();
        promise10();
        promise11();
        promise12();
        promise13();
        promise14();
        promise15();
        promise16();
        promise17();
        promise18();
        promise19();
        promise20();
        promise21();
        promise22();
        promise23();
        promise24();
        promise25();
        promise26();
        promise27();
        promise28();
        promise29();
        promise30();
        promise31();
        promise32();
        promise33();
        promise34();
        promise35();
        promise36();
        promise37();
        Bench.closeTest("PromisesTest");
    }

    private static void is(String what, long got, long want) {
        Bench.is(what, got, want);
    }

    private static void promise1() {
        DiscLathe shop = new DiscLathe();
        int[] told = {0, 0, 10, 0, 0, NONE};
        for (int what = 0; what < told.length; what++) is("1 told " + what, shop.told(what), told[what]);
        int[] counts = {0, 0, 0, 0, 5, NONE};
        for (int what = 0; what < counts.length; what++) is("1 count " + what, shop.count(what), counts[what]);
        is("1 fault", shop.fault(0), 0);
        is("1 place", shop.fault(1), NONE);
        for (int k = 0; k < 4; k++) {
            for (int m = 0; m < 100; m++) is("1 was", shop.was(k, m), 0);
        }
        is("1 wheel", shop.wheel(0), NONE);
        is("1 shared", shop.shared(0), NONE);
        is("1 no tool", shop.slope(0), RANGE);
        is("1 no step", shop.begin(0), RANGE);
        is("1 empty row", shop.byRow(), 0);
        is("1 empty text", shop.part(), 0);
        is("1 empty box", shop.box(), 0);
        is("1 share", shop.share(99999), 0);
        is("1 bin", shop.bin(0, 0, 0), 0);
        is("1 halt", shop.halt(0, 0), NONE);
    }

    private static void promise2() {
        DiscLathe shop = new DiscLathe();
        for (int n = 1; n <= 10; n++) {
            is("2 feed", shop.feed(0x30313032, 0x30333034, 0x30353036, 0x30373038, 0x39313932), 20 * n);
        }
        is("2 old", shop.old(0), 1);
        int[] heights = {1, 2, 3, 4, 5, 6, 7, 8, 901, 902};
        for (int m = 0; m < 100; m++) is("2 was " + m, shop.was(0, m), heights[m % 10]);
        for (int n = 1; n <= 40; n++) is("2 feed", shop.feed(-1, 0, 0, 0, 0), 20 * n);
        is("2 full", shop.feed(0, 0, 0, 0, 0), FULL);
        is("2 stays", shop.count(3), 800);
        is("2 shorter", shop.end(781), 781);
        is("2 full", shop.feed(0, 0, 0, 0, 0), FULL);
        is("2 stays", shop.count(3), 781);
        is("2 shorter", shop.end(780), 780);
        is("2 just", shop.feed(0, 0, 0, 0, 0), 800);
        is("2 strange bytes", shop.part(), NONE);
        is("2 strange byte's place", shop.fault(1), 0);
    }

    private static void promise3() {
        Bench bench = new Bench();
        is("3 none", bench.shop.end(1), NONE);
        is("3 zero", bench.shop.end(0), 0);
        bench.tape("tool a 1 1; step a 7; step");
        is("3 too many", bench.shop.end(27), NONE);
        is("3 below", bench.shop.end(-1), NONE);
        is("3 stays", bench.shop.count(3), 26);
        is("3 cut", bench.shop.end(21), 21);
        is("3 bytes", bench.shop.count(3), 21);
        bench.tape(" step a 9;");
        is("3 put together", bench.shop.part(), 3);
        is("3 length", bench.shop.told(4), 16);
    }

    private static void promise4() {
        Bench bench = Bench.with(ONE);
        is("4 gauge", bench.shop.gauge(7, 0, 0, 3), 0);
        is("4 right", bench.shop.right(7, 0, 50), 1);
        is("4 keep", bench.shop.keep(0, 0, 0), 1);
        is("4 share", bench.shop.share(5000), bench.shop.file(0, 0, 2));
        is("4 shared", bench.shop.shared(0), 0);
        is("4 box", bench.box("20 40"), 2);
        is("4 train", bench.shop.train(1, 2, NONE), 2);
        is("4 fault", bench.part("tool a 1 1; tool b 1 1; step b 9; stop"), NONE);
        is("4 tape", bench.shop.count(3), 0);
        is("4 tools stay", bench.shop.told(0), 1);
        is("4 clauses stay", bench.shop.count(0), 2);
        is("4 length stays", bench.shop.told(4), 1);
        is("4 gauged stays", bench.shop.count(1), 1);
        is("4 right stays", bench.shop.count(2), 1);
        is("4 stage stays", bench.shop.gauge(6, 0, 0, 0), RANGE);
        is("4 shared stays", bench.shop.shared(0), 0);
        is("4 fit", bench.shop.fit(999, 0), 0);
        is("4 part", bench.part(" \n" + ONE + "\n"), 2);
        is("4 all fit", bench.shop.fit(999, 0), 1525);
        is("4 gauged none", bench.shop.count(1), 0);
        is("4 right none", bench.shop.count(2), 0);
        is("4 stage 0", bench.shop.gauge(0, 0, 0, 0), 0);
        is("4 shared none", bench.shop.shared(0), NONE);
        is("4 old stays", bench.shop.was(0, 90), 1);
        is("4 box stays", bench.shop.told(3), 2);
        is("4 train stays", bench.shop.wheel(1), 1);
        is("4 no blanks", bench.part("tool a1 1;step a1;step a2 3;idle5;"), 4);
        is("4 idle", bench.shop.told(2), 5);
        is("4 empty", bench.part("  \n "), 0);
        is("4 tools", bench.shop.told(0), 0);
        is("4 idle again", bench.shop.told(2), 10);
    }

    private static void fault(String text, int kind, int place) {
        Bench.isFault(text, kind, place);
    }

    private static void promise5Syntax() {
        fault(";", 1, 0);
        fault(" 7", 1, 1);
        fault("toll a 1 1;", 1, 0);
        fault("toola 1 1;", 1, 0);
        fault("tool", 1, 4);
        fault("tool  \n", 1, 7);
        fault("tool 1", 1, 5);
        fault("tool a;", 1, 6);
        fault("tool a 1;", 1, 8);
        fault("tool a 1 1", 1, 10);
        fault("tool a 1 1 1;", 1, 11);
        fault("tool a 1 1;;", 1, 11);
        fault("tool a 1 1, ", 1, 10);
        fault("tool A 1 1;", 1, 5);
        fault("tool\ta 1 1;", 1, 4);
        fault("tool a\u00e9 1 1;", 1, 6);
        fault("tool abcdefghi 1 1;", 1, 5);
        fault("tool a 00001 1;", 1, 7);
        fault("tool a 1 1; step a ;", 1, 19);
        fault("tool a 1 1; step a 1 2 3;", 1, 23);
        fault("tool a 1 1; step a 1 b;", 1, 21);
        fault("tool a 1 1; step a 1 2", 1, 22);
        fault("after a", 1, 6);
        fault("after ;", 1, 6);
        fault("meet 1", 1, 5);
        fault("meet ;", 1, 5);
        fault("idle a", 1, 5);
        fault("idle 5 5;", 1, 7);
        fault("idle 5;a", 1, 7);
        fault("idle 5; idlf 6", 1, 8);
        is("5 long names and numbers", new Bench().part("tool abcdefgh 0001 0060; step abcdefgh 0400 0099;"), 2);
        is("5 words as names", new Bench().part("tool tool 1 1; tool idle 1 1; meet tool idle; step idle 1;"), 4);
    }

    private static void promise5Meaning() {
        fault("tool a 0 1;", 2, 7);
        fault("tool a 51 1;", 2, 7);
        fault("tool a 50 0;", 2, 10);
        fault("tool a 50 61;", 2, 10);
        fault("tool a 1 1; step a 0;", 2, 19);
        fault("tool a 1 1; step a 401;", 2, 19);
        fault("tool a 1 1; step a 400 100;", 2, 23);
        fault("idle 41;", 2, 5);
        fault("after 0 0;", 2, 6);
        fault(ONE + "after 1 0;", 2, 27);
        fault(ONE + "after 0 1;", 2, 29);
        fault(ONE + "step a 2; after 1 0;", 2, 39);
        fault(ONE + "after 0 0;", 3, 29);
        fault(ONE + "step a 2; after 0 1; after 0 1;", 3, 50);
        fault("tool a 1 1; tool a x", 3, 17);
        fault("tool a 1 1; meet a a;", 3, 19);
        fault("tool a 1 1; tool b 1 1; meet a b; meet a b;", 3, 41);
        fault("tool a 1 1; tool b 1 1; meet a b; meet b a;", 3, 41);
        fault("idle 10; idle x", 3, 9);
        String six = "tool a 1 1; tool b 1 1; tool c 1 1; tool d 1 1; tool e 1 1; tool f 1 1; ";
        fault(six + "tool a 0 0;", 4, 72);
        fault(six + "tool", 4, 72);
        fault(ONE + "step a 1;step a 1;step a 1;step a 1;step a 1;step a 1; step b", 4, 76);
        is("5 just so many", new Bench().part(six + "step f 1;step f 1;step f 1;step f 1;step f 1;step f 1;step f 1;"), 13);
        fault("step a 0;", 5, 5);
        fault("meet a a;", 5, 5);
        fault("tool a 1 1; meet a b;", 5, 19);
        fault("tool a 1 1; meet b a;", 5, 17);
        fault("tool aa 1 1; step a 1;", 5, 18);
        is("5 the edges", new Bench().part("tool a 50 60; step a 400 99; step a 1 0; after 0 1; idle 40;"), 5);
        is("5 the edges", new Bench().part("tool a 1 1; idle 0;"), 2);
    }

    private static void promise6() {
        Bench bench = Bench.with("tool a 3 10; tool b 2 20; tool c 1 30; step b 7 5; step a 4; step c 9 0;"
                + "after 0 2; after 1 2; meet a c; meet c b; idle 7;");
        int[] plain = {3, 3, 7, 0};
        for (int what = 0; what < 4; what++) is("6 told " + what, bench.shop.told(what), plain[what]);
        is("6 length", bench.shop.told(4), 28);
        int[][] rows = {{19, 12, 9}, {1, 0, 2}, {0, 0, 3}, {4, 4, 3}, {3, 2, 1}, {10, 20, 30}};
        for (int row = 0; row < 6; row++) {
            for (int n = 0; n < 10; n++) {
                int what = 10 * (row + 1) + n;
                is("6 told " + what, bench.shop.told(what), n < 3 ? rows[row][n] : NONE);
            }
        }
        for (int what : new int[] {-1, 5, 6, 7, 8, 9, 70, 100, Integer.MIN_VALUE, Integer.MAX_VALUE, -10, -20}) {
            is("6 told " + what, bench.shop.told(what), NONE);
        }
        is("6 box", bench.box("10 20 30"), 3);
        is("6 wheels", bench.shop.told(3), 3);
    }

    private static void begins(String text, int length, int... due) {
        Bench bench = Bench.with(text);
        is("7 length of " + text, bench.shop.told(4), length);
        for (int k = 0; k < due.length; k++) is("7 begin " + k + " of " + text, bench.shop.begin(k), due[k]);
        is("7 below", bench.shop.begin(-1), RANGE);
        is("7 beyond", bench.shop.begin(due.length), RANGE);
    }

    private static void promise7() {
        begins(ONE, 1, 0);
        begins(TURNED, 7, 2, 0, 2);
        begins("tool a 1 1; tool b 1 1; step a 5; step b 3;", 5, 0, 0);
        begins("tool a 1 1; tool b 1 1; step a 5; step b 3; meet a b;", 8, 0, 5);
        begins("tool a 1 1; step a 5; step a 3 1; step a 1;", 10, 0, 5, 9);
        begins("tool a 50 1; step a 400 99; step a 400 99; step a 400 99; step a 400 99; step a 400 99;"
                + "step a 400 99; step a 400 99;", 140693, 0, 20099, 40198, 60297, 80396, 100495, 120594);
        begins("tool a 1 1; tool b 1 1; tool c 1 1; step a 4; step b 2; step c 1; after 0 2; after 1 2;", 5, 0, 0, 4);
        // A shorter wait of STEP 0 would make the plan longer; of the least ones STEP 1 goes ahead of STEP 3.
        begins("tool a 1 1; tool b 1 1; step a 2; step a 2; step b 6; step a 2; after 1 2;", 8, 2, 0, 2, 4);
    }

    private static void promise8() {
        Bench bench = Bench.with(TURNED + "step b 1; tool c 1 1; step c 3; meet c a;");
        // 0: 2..3, 1: 0..2, 2: 2..7 or 3..8 behind STEP 3 at 0..1, 4: with the TOOL that meets a.
        is("8 length", bench.shop.told(4), 7);
        int[] begin = {2, 0, 2, 0, 3};
        int[] held = {1, 1, 1, 0, 0};
        for (int k = 0; k < 5; k++) {
            is("8 begin " + k, bench.shop.begin(k), begin[k]);
            is("8 held " + k, bench.shop.held(k), held[k]);
        }
        is("8 below", bench.shop.held(-1), RANGE);
        is("8 beyond", bench.shop.held(5), RANGE);
        // STEP 1 must go ahead of STEP 0, and STEP 2 waits for its TOOL, too: 1 0..2, 0 2..4, 3 0..3, 2 3..8.
        Bench first = Bench.with("tool a 1 1; tool b 1 1; step a 2; step a 2; step b 5; step b 3; after 1 2;");
        is("8 length", first.shop.told(4), 8);
        is("8 begin", first.shop.begin(0), 2);
        is("8 begin", first.shop.begin(2), 3);
        is("8 by STEP 0 alone", first.shop.held(1), 1);
        Bench same = Bench.with("tool a 1 1; tool b 1 1; step a 1; step a 1; step b 3;");
        is("8 same tool", same.shop.held(0), 1);
        is("8 free", same.shop.held(1), 0);
        is("8 at the end", same.shop.held(2), 1);
    }

    private static void promise9() {
        Bench gap = Bench.with("tool a 1 1; tool b 1 1; step a 4; step b 3; step b 4; after 0 1;");
        is("9 into the gap", gap.byRow("012"), 7);
        is("9 other row", gap.byRow("201"), 7);
        is("9 waits for one behind", gap.byRow("102"), NONE);
        is("9 too short", gap.byRow("01"), NONE);
        is("9 too long", gap.byRow("0122"), NONE);
        is("9 twice", gap.byRow("011"), NONE);
        is("9 no step", gap.byRow("013"), NONE);
        is("9 blank", gap.byRow("01 "), NONE);
        is("9 empty", gap.byRow(""), NONE);
        is("9 tape", gap.shop.count(3), 0);
        Bench tight = Bench.with("tool a 1 1; tool b 1 1; step a 4; step b 3; step b 5; after 0 1;");
        is("9 no gap", tight.byRow("012"), 12);
        is("9 better row", tight.byRow("021"), 8);
        is("9 best", tight.shop.told(4), 8);
        Bench meet = Bench.with("tool a 1 1; tool b 1 1; tool c 1 1; step a 4; step b 3; step c 2; after 0 1; meet b c; meet a c;");
        is("9 meets both", meet.byRow("012"), 9);
        is("9 meets first", meet.byRow("201"), 9);
        is("9 plan stays", meet.shop.begin(2), 7);
        is("9 row", new Bench().byRow(""), 0);
        is("9 no row", new Bench().byRow("0"), NONE);
    }

    private static void heights(Bench bench, int t, int[][] due) {
        for (int[] one : due) is("10 height " + t + " " + one[0], bench.shop.height(t, one[0]), one[1]);
    }

    private static void promise10() {
        Bench single = Bench.with("tool a 1 10; tool b 1 1; step a 40 10; idle 40;");
        heights(single, 0, new int[][] {{0, 0}, {1, 0}, {2, 1}, {24, 20}, {47, 39}, {48, 40}, {60, 40}, {61, 30},
            {63, 10}, {64, 0}, {99, 0}});
        heights(single, 1, new int[][] {{0, 0}, {50, 0}, {99, 0}});
        is("10 tool", single.shop.height(2, 0), RANGE);
        is("10 tool", single.shop.height(-1, 0), RANGE);
        is("10 mark", single.shop.height(0, 100), RANGE);
        is("10 mark", single.shop.height(0, -1), RANGE);
        Bench round = Bench.with(ROUND);
        heights(round, 1, new int[][] {{99, 9}, {0, 10}, {1, 9}, {9, 1}, {10, 0}, {50, 0}, {51, 0}, {55, 1}});
        heights(round, 0, new int[][] {{0, 0}, {49, 9}, {50, 10}, {51, 9}, {59, 1}, {60, 0}});
        Bench both = Bench.with("tool a 1 1; step a 100; step a 20; idle 40;");
        // 120 turns, MARK t / 2: 0..50, then 50..60 with a fall of 1 from 100 on.
        heights(both, 0, new int[][] {{25, 50}, {50, 100}, {60, 90}, {61, 89}, {99, 51}});
        Bench tiny = Bench.with("tool a 1 9; tool b 50 1; step a 20; step b 400; idle 0;");
        heights(tiny, 0, new int[][] {{0, 20}, {1, 11}, {2, 2}, {3, 0}, {99, 0}});
    }

    private static void promise11() {
        Bench bench = Bench.with("tool a 1 10; tool b 1 1; step a 40 10; step b 10; after 0 1; idle 40;");
        int[][] due = {{0, 40, 50, 0, 0}, {50, 60, 60, 0, 0}};
        for (int k = 0; k < 2; k++) {
            for (int what = 0; what < 5; what++) is("11 lobe " + k + " " + what, bench.shop.lobe(k, what), due[k][what]);
        }
        is("11 what", bench.shop.lobe(0, 5), RANGE);
        is("11 what", bench.shop.lobe(0, -1), RANGE);
        is("11 step", bench.shop.lobe(2, 0), RANGE);
        is("11 step", bench.shop.lobe(-1, 0), RANGE);
        is("11 mark 100", Bench.with(ROUND).shop.lobe(1, 2), 100);
        Bench steep = Bench.with("tool a 1 1; step a 60; step a 60; idle 40;");
        // 30 MARKS each for a RISE of 60 by 1: both are too steep, and the first is not down when the next begins.
        is("11 steep", steep.shop.lobe(0, 3), 1);
        is("11 late", steep.shop.lobe(1, 4), 1);
        is("11 falls by the round", steep.shop.lobe(0, 4), 1);
        Bench just = Bench.with("tool a 1 2; step a 60; step a 60; idle 40;");
        is("11 just not steep", just.shop.lobe(0, 3), 0);
        is("11 falls in time by the round", just.shop.lobe(0, 4), 0);
        is("11 late", just.shop.lobe(1, 4), 1);
    }

    private static void promise12() {
        Bench bench = Bench.with("tool a 1 1; tool b 1 60; step b 30; step a 60; step a 60; idle 40;");
        is("12 steep", bench.shop.wrong(0), 6);
        is("12 late", bench.shop.wrong(1), 6);
        is("12 others", bench.shop.wrong(2), NONE);
        is("12 others", bench.shop.wrong(-1), NONE);
        is("12 none", Bench.with(ONE).shop.wrong(0), 0);
        is("12 none", new Bench().shop.wrong(1), 0);
    }

    private static void promise13() {
        Bench bench = Bench.with("tool a 1 1; tool b 1 1; tool c 1 1; step a 60; step a 61; step b 9; idle 21;");
        // 121 turns on 79 MARKS: STEP 0 from 0 to 39, STEP 1 from 39 to 79, STEP 2 from 0 to 5.
        is("13 two steps", bench.shop.slope(0), 2);
        is("13 one step", bench.shop.slope(1), 2);
        is("13 no step", bench.shop.slope(2), 1);
        is("13 tool", bench.shop.slope(3), RANGE);
        is("13 tool", bench.shop.slope(-1), RANGE);
        is("13 even", Bench.with("tool a 1 7; step a 180; idle 10;").shop.slope(0), 2);
        is("13 one more", Bench.with("tool a 1 7; step a 181; idle 10;").shop.slope(0), 3);
        String slow = "tool a 1 1; tool b 50 1; step b 100; step a ";
        is("13 sixty", Bench.with(slow + "60;").shop.slope(0), 60);
        is("13 beyond sixty", Bench.with(slow + "61;").shop.slope(0), NONE);
        is("13 no mark to rise", Bench.with(slow + "1;").shop.slope(0), NONE);
    }

    private static void promise14() {
        Bench bench = new Bench();
        int[] heights = new int[100];
        for (int m = 0; m < 100; m++) heights[m] = m * 999 / 99;
        is("14 old", bench.old(3, heights), 1);
        for (int m = 0; m < 100; m++) is("14 was " + m, bench.shop.was(3, m), heights[m]);
        is("14 too short", bench.tape("00").shop.old(3), NONE);
        String row = "00".repeat(100);
        is("14 too long", bench.tape(row + "0").shop.old(3), NONE);
        is("14 below 0", bench.tape(row.substring(2) + "0/").shop.old(3), NONE);
        is("14 above 999", bench.tape("9" + (char) (48 + 100) + row.substring(2)).shop.old(3), NONE);
        is("14 stays", bench.shop.was(3, 99), 999);
        is("14 no disc", bench.tape(row).shop.old(4), RANGE);
        is("14 tape", bench.shop.count(3), 0);
        is("14 no disc", bench.tape(row).shop.old(-1), RANGE);
        is("14 999", bench.tape("9" + (char) (48 + 99) + row.substring(2)).shop.old(0), 1);
        is("14 999", bench.shop.was(0, 0), 999);
        is("14 others stay", bench.shop.was(3, 99), 999);
    }

    private static void promise15() {
        Bench bench = new Bench();
        is("15 old", bench.old(1, Bench.flat(345)), 1);
        is("15 first", bench.shop.was(1, 0), 345);
        is("15 last", bench.shop.was(1, 99), 345);
        is("15 other disc", bench.shop.was(0, 0), 0);
        is("15 disc", bench.shop.was(4, 0), RANGE);
        is("15 disc", bench.shop.was(-1, 0), RANGE);
        is("15 mark", bench.shop.was(0, 100), RANGE);
        is("15 mark", bench.shop.was(0, -1), RANGE);
    }

    private static void promise16() {
        Bench bench = Bench.with(ROUND);
        is("16 keep", bench.shop.keep(1, 2, 500), 510);
        for (int m = 0; m < 100; m++) is("16 was " + m, bench.shop.was(2, m), bench.shop.height(1, m) + 500);
        is("16 base", bench.shop.keep(1, 2, 501), RANGE);
        is("16 base", bench.shop.keep(1, 2, -1), RANGE);
        is("16 tool", bench.shop.keep(2, 2, 0), RANGE);
        is("16 tool", bench.shop.keep(-1, 2, 0), RANGE);
        is("16 disc", bench.shop.keep(1, 4, 0), RANGE);
        is("16 disc", bench.shop.keep(1, -1, 0), RANGE);
        is("16 stays", bench.shop.was(2, 0), 510);
        is("16 no base", bench.shop.keep(0, 2, 0), 10);
        is("16 file anew", bench.shop.file(0, 2, 2), 0);
    }

    private static void promise17() {
        Bench bench = Bench.with(ROUND);
        int[] turned = new int[100];
        int sum = 0;
        for (int m = 0; m < 100; m++) {
            turned[(m + 93) % 100] = bench.shop.height(0, m) + 3;
            sum += bench.shop.height(0, m);
        }
        is("17 old", bench.old(0, turned), 1);
        is("17 turn", bench.shop.file(0, 0, 0), 93);
        is("17 base", bench.shop.file(0, 0, 1), 3);
        is("17 filed off", bench.shop.file(0, 0, 2), 0);
        turned[5] += 40;
        is("17 old", bench.old(0, turned), 1);
        is("17 turn", bench.shop.file(0, 0, 0), 93);
        is("17 filed off", bench.shop.file(0, 0, 2), 40);
        is("17 old", bench.old(1, Bench.flat(9)), 1);
        for (int what = 0; what < 3; what++) is("17 no base", bench.shop.file(0, 1, what), NONE);
        is("17 old", bench.old(1, Bench.flat(10)), 1);
        is("17 alike turns", bench.shop.file(0, 1, 0), 0);
        is("17 base 0", bench.shop.file(0, 1, 1), 0);
        is("17 filed off", bench.shop.file(0, 1, 2), 1000 - sum);
        is("17 what", bench.shop.file(0, 0, 3), RANGE);
        is("17 what", bench.shop.file(0, 0, -1), RANGE);
        is("17 tool", bench.shop.file(2, 0, 0), RANGE);
        is("17 tool", bench.shop.file(-1, 0, 0), RANGE);
        is("17 disc", bench.shop.file(0, 4, 0), RANGE);
        is("17 disc", bench.shop.file(0, -1, 0), RANGE);
        is("17 new part", bench.part("tool a 1 1;"), 1);
        is("17 no steps", bench.shop.file(0, 1, 1), 10);
        is("17 no steps", bench.shop.file(0, 1, 2), 0);
    }

    private static void promise18() {
        Bench bench = Bench.with("tool a 1 1; tool z 1 1; tool b 1 1; step a 10; step b 20; after 0 1;");
        is("18 new ones", bench.shop.share(7), 14);
        is("18 price", bench.shop.share(-1), RANGE);
        is("18 price", bench.shop.share(100000), RANGE);
        is("18 price", bench.shop.share(99999), 199998);
        is("18 for nothing", bench.shop.share(0), 0);
        is("18 keep", bench.shop.keep(2, 1, 5), 25);
        int low = bench.shop.file(0, 1, 2);
        // OLD DISC 1 is TOOL 2's own; TOOL 0 would have to file it.
        is("18 one of both", bench.shop.share(7), 7);
        is("18 keep", bench.shop.keep(0, 3, 5), 15);
        is("18 both", bench.shop.share(99999), 0);
        is("18 none fits", bench.old(3, Bench.flat(0)), 1);
        is("18 dear", bench.shop.share(99999), 99999);
        is("18 filing for the low one", bench.shop.file(0, 1, 2), low);
        is("18 old", bench.old(1, Bench.flat(10)), 1);
        is("18 too low for one", bench.shop.share(50000), bench.shop.file(0, 1, 2) + 50000);
        is("18 no tools", new Bench().shop.share(3), 0);
    }

    private static void promise19() {
        Bench bench = Bench.with("tool a 1 1; tool z 1 1; tool b 1 1; step a 10; step b 10; after 0 1;");
        is("19 ahead", bench.shop.shared(0), NONE);
        is("19 old", bench.old(1, Bench.flat(50)), 1);
        is("19 old", bench.old(3, Bench.flat(60)), 1);
        is("19 share", bench.shop.share(99999), bench.shop.file(0, 1, 2) + bench.shop.file(2, 3, 2));
        // Flat DISCS are alike for all: the least row.
        int[] due = {1, NONE, 3, NONE};
        for (int t = 0; t < 4; t++) is("19 shared " + t, bench.shop.shared(t), due[t]);
        is("19 below", bench.shop.shared(-1), NONE);
        is("19 refused", bench.shop.share(-1), RANGE);
        is("19 stays", bench.shop.shared(0), 1);
        is("19 same price", bench.shop.share(bench.shop.file(0, 1, 2)),
                bench.shop.file(0, 1, 2) + Math.min(bench.shop.file(0, 1, 2), bench.shop.file(2, 3, 2)));
        is("19 old ahead of new", bench.shop.shared(0), 1);
        is("19 cheap", bench.shop.share(1), 2);
        is("19 new", bench.shop.shared(0), NONE);
        is("19 share", bench.shop.share(99999) > 0 ? 1 : 0, 1);
        is("19 gets", bench.shop.shared(2), 3);
        is("19 fault", bench.part("x"), NONE);
        is("19 stays", bench.shop.shared(2), 3);
        is("19 part", bench.part("tool a 1 1; tool b 1 1; tool c 1 1; step c 1;"), 4);
        is("19 behind part", bench.shop.shared(2), NONE);
    }

    private static void promise20() {
        Bench bench = new Bench();
        is("20 box", bench.box(" 10 200\n0020  77 "), 4);
        is("20 too few teeth", bench.box("20 9"), NONE);
        is("20 too many teeth", bench.box("20 201"), NONE);
        is("20 long run", bench.box("20 00020"), NONE);
        is("20 word", bench.box("20 a"), NONE);
        is("20 sign", bench.box("20;"), NONE);
        is("20 strange", bench.box("20,30"), NONE);
        is("20 tape", bench.shop.count(3), 0);
        is("20 eleven", bench.box("10 11 12 13 14 15 16 17 18 19 20"), NONE);
        is("20 stays", bench.shop.told(3), 4);
        is("20 teeth stay", bench.shop.teeth(3), 77);
        is("20 ten", bench.box("10 11 12 13 14 15 16 17 18 19"), 10);
        is("20 empty", bench.box(" \n"), 0);
        is("20 none", bench.shop.told(3), 0);
    }

    private static void promise21() {
        Bench bench = new Bench();
        is("21 none", bench.shop.teeth(0), RANGE);
        is("21 box", bench.box("10 200 0020 77"), 4);
        int[] due = {10, 200, 20, 77};
        for (int i = 0; i < 4; i++) is("21 teeth " + i, bench.shop.teeth(i), due[i]);
        is("21 below", bench.shop.teeth(-1), RANGE);
        is("21 beyond", bench.shop.teeth(4), RANGE);
    }

    private static void trains(Bench bench, int p, int q, int without, int... row) {
        String what = "22 train " + p + " " + q + " " + without;
        is(what, bench.shop.train(p, q, without), row.length);
        for (int i = 0; i < 4; i++) is(what + " wheel " + i, bench.shop.wheel(i), i < row.length ? row[i] : NONE);
    }

    private static void promise22() {
        Bench bench = new Bench();
        is("22 no wheels", bench.shop.train(1, 1, NONE), NONE);
        is("22 box", bench.box("10 20 30"), 3);
        trains(bench, 3, 2, NONE, 2, 1);
        // 2 and 3/2 are away alike: the least row.
        trains(bench, 7, 4, NONE, 1, 0);
        trains(bench, 7, 4, 0, 2, 1);
        trains(bench, 9999, 1, NONE, 2, 0);
        is("22 p", bench.shop.train(0, 1, NONE), RANGE);
        is("22 p", bench.shop.train(10000, 1, NONE), RANGE);
        is("22 q", bench.shop.train(1, 0, NONE), RANGE);
        is("22 q", bench.shop.train(1, 10000, NONE), RANGE);
        is("22 without", bench.shop.train(1, 1, 3), RANGE);
        is("22 without", bench.shop.train(1, 1, -2), RANGE);
        is("22 box", bench.box("20 20"), 2);
        trains(bench, 1, 1, NONE, 0, 1);
        is("22 too few", bench.shop.train(1, 1, 0), NONE);
        is("22 box", bench.box("10 20 10 30 40"), 5);
        // 2 by two WHEELS and by four: that of two.
        trains(bench, 2, 1, NONE, 1, 0);
        trains(bench, 6, 1, NONE, 1, 0, 3, 2);
        trains(bench, 12, 1, 1, 3, 0, 4, 2);
        trains(bench, 1, 12, NONE, 0, 3, 2, 4);
    }

    private static void promise23() {
        Bench bench = new Bench();
        for (int i = -1; i < 5; i++) is("23 ahead", bench.shop.wheel(i), NONE);
        is("23 box", bench.box("10 20 10 30"), 4);
        trains(bench, 6, 1, NONE, 1, 0, 3, 2);
        is("23 below", bench.shop.wheel(-1), NONE);
        is("23 beyond", bench.shop.wheel(4), NONE);
        is("23 refused", bench.shop.train(0, 1, NONE), RANGE);
        is("23 stays", bench.shop.wheel(0), 1);
        is("23 empty box", bench.box(""), 0);
        is("23 none", bench.shop.train(1, 1, NONE), NONE);
        is("23 stays", bench.shop.wheel(3), 2);
        is("23 spare", bench.shop.spare(1, 1), 0);
        is("23 stays", bench.shop.wheel(2), 3);
    }

    private static void off(Bench bench, int p, int q, long upper, long lower) {
        bench.shop.train(p, q, NONE);
        is("24 upper of " + p + " " + q, bench.shop.off(false), upper);
        is("24 lower of " + p + " " + q, bench.shop.off(true), lower);
    }

    private static void promise24() {
        Bench bench = new Bench();
        is("24 upper ahead", bench.shop.off(false), 0);
        is("24 lower ahead", bench.shop.off(true), NONE);
        is("24 box", bench.box("20 30"), 2);
        off(bench, 3, 2, 0, 1);
        off(bench, 2, 1, -1, 2);
        off(bench, 5, 6, -1, 6);
        off(bench, 1, 9999, (2 * 9999 - 3) / 3, 9999);
        is("24 box", bench.box("200 199 198 197"), 4);
        bench.shop.train(9999, 1, NONE);
        // 2 is the greatest number that goes into both.
        is("24 great", bench.shop.off(false), (200L * 199 - 9999L * 197 * 198) / 2);
        is("24 great", bench.shop.off(true), 197L * 198 / 2);
        is("24 refused", bench.shop.train(1, 0, NONE), RANGE);
        is("24 stays", bench.shop.off(true), 197L * 198 / 2);
    }

    private static void promise25() {
        Bench bench = new Bench();
        is("25 none", bench.shop.spare(1, 1), 0);
        is("25 box", bench.box("20 20 40 40"), 4);
        // Pairs: 0-1, 1-0, 2-3, 3-2. Fours: one of 20 and one of 40 above, 2 * 2 ways, in 2 rows each, below in 2.
        is("25 even", bench.shop.spare(1, 1), 4 + 16);
        is("25 even", bench.shop.spare(9999, 9999), 20);
        is("25 half", bench.shop.spare(1, 2), 4);
        is("25 quarter", bench.shop.spare(1, 4), 4);
        is("25 third", bench.shop.spare(1, 3), 0);
        is("25 p", bench.shop.spare(0, 1), RANGE);
        is("25 p", bench.shop.spare(10000, 1), RANGE);
        is("25 q", bench.shop.spare(1, 0), RANGE);
        is("25 q", bench.shop.spare(1, 10000), RANGE);
    }

    private static void promise26() {
        Bench bench = new Bench();
        is("26 n first", bench.shop.worn(0, 0), RANGE);
        is("26 n first", bench.shop.worn(0, 10), RANGE);
        is("26 ahead", bench.shop.worn(0, 1), STATE);
        is("26 ahead", bench.shop.worn(-1, 9), STATE);
        is("26 none", bench.shop.train(1, 1, NONE), NONE);
        is("26 ahead still", bench.shop.worn(0, 1), STATE);
        is("26 box", bench.box("10 30"), 2);
        is("26 train", bench.shop.train(1, 3, NONE), 2);
        // 1/30 - 10/30; 10/21 - 10/30.
        is("26 upper", bench.shop.worn(0, 9), -300000);
        is("26 lower", bench.shop.worn(1, 9), 142857);
        is("26 upper", bench.shop.worn(0, 1), -33333);
        is("26 not in it", bench.shop.worn(2, 1), RANGE);
        is("26 not in it", bench.shop.worn(-1, 1), RANGE);
        is("26 n", bench.shop.worn(0, 10), RANGE);
        is("26 n", bench.shop.worn(0, 0), RANGE);
        is("26 box", bench.box("10 20 10 30"), 4);
        is("26 train", bench.shop.train(6, 1, NONE), 4);
        // 20 * 30 over 10 * 10.
        is("26 first", bench.shop.worn(0, 3), -900000);
        is("26 second", bench.shop.worn(1, 3), 6000000 * 3L / 7);
        is("26 third", bench.shop.worn(2, 3), -600000);
        is("26 fourth", bench.shop.worn(3, 9), 54000000);
        is("26 beyond", bench.shop.worn(4, 1), RANGE);
        is("26 other box", bench.box("50"), 1);
        is("26 stays", bench.shop.worn(0, 3), -900000);
    }

    private static void promise27() {
        Bench bench = Bench.with(ONE);
        is("27 stage", bench.shop.gauge(-1, 0, 0, 0), RANGE);
        is("27 stage", bench.shop.gauge(1000, 0, 0, 0), RANGE);
        is("27 part", bench.shop.gauge(0, -1, 0, 0), RANGE);
        is("27 part", bench.shop.gauge(0, 40, 0, 0), RANGE);
        is("27 step", bench.shop.gauge(0, 0, -1, 0), RANGE);
        is("27 step", bench.shop.gauge(0, 0, 1, 0), RANGE);
        is("27 number", bench.shop.gauge(0, 0, 0, 100), RANGE);
        is("27 number", bench.shop.gauge(0, 0, 0, -100), RANGE);
        is("27 nothing", bench.shop.count(1), 0);
        is("27 first", bench.shop.gauge(5, 39, 0, 99), 0);
        is("27 falling", bench.shop.gauge(4, 0, 0, 0), RANGE);
        is("27 same stage", bench.shop.gauge(5, 0, 0, -99), 1);
        for (int n = 2; n < 16; n++) is("27 more", bench.shop.gauge(6, n, 0, 0), n);
        is("27 full", bench.shop.gauge(999, 0, 0, 0), FULL);
        is("27 wrong ahead of full", bench.shop.gauge(5, 0, 0, 0), RANGE);
        is("27 stage stays", bench.shop.gauge(6, 0, 0, 0), FULL);
        is("27 count", bench.shop.count(1), 16);
    }

    private static void promise28() {
        Bench bench = Bench.with(ONE);
        is("28 none", bench.shop.right(0, 0, 0), RANGE);
        is("28 gauge", bench.shop.gauge(3, 0, 0, 1), 0);
        is("28 gauge", bench.shop.gauge(3, 1, 0, 1), 1);
        is("28 falling", bench.shop.right(2, 0, 0), RANGE);
        is("28 stage", bench.shop.right(1000, 0, 0), RANGE);
        is("28 no such", bench.shop.right(3, 2, 0), RANGE);
        is("28 no such", bench.shop.right(3, -1, 0), RANGE);
        is("28 number", bench.shop.right(3, 0, 100), RANGE);
        is("28 number", bench.shop.right(3, 0, -100), RANGE);
        is("28 once", bench.shop.right(3, 0, 2), 1);
        is("28 twice", bench.shop.right(4, 0, 3), 2);
        is("28 gauge falls", bench.shop.gauge(3, 0, 0, 1), RANGE);
        for (int n = 1; n <= 18; n++) is("28 other", bench.shop.right(4, 1, 0), n);
        is("28 count", bench.shop.count(2), 20);
        is("28 full", bench.shop.right(9, 1, 0), FULL);
        is("28 wrong ahead of full", bench.shop.right(3, 1, 0), RANGE);
        is("28 stage stays", bench.shop.gauge(4, 0, 0, 1), 2);
    }

    /** Worn by 3 from part 0 on at stage 0; heat and dull even out from stage 1 on; none at 2, put right at 3. */
    private static Bench gauged() {
        Bench bench = Bench.with(ONE);
        is("29 gauge", bench.shop.gauge(0, 0, 0, 3), 0);
        is("29 gauge", bench.shop.gauge(1, 5, 0, 3), 1);
        is("29 gauge", bench.shop.gauge(2, 10, 0, 4), 2);
        is("29 right", bench.shop.right(3, 2, 3), 1);
        return bench;
    }

    private static void promise29() {
        Bench bench = gauged();
        int[] many = {25, 3, 0, 3};
        // h -2 has the number 15 without a DULL STEP, 17 with one by 2.
        int[] least = {15, 17, NONE, 17};
        for (int known = 0; known < 4; known++) {
            is("29 many at " + known, bench.shop.fit(known, 0), many[known]);
            is("29 least at " + known, bench.shop.fit(known, 1), least[known]);
        }
        is("29 later", bench.shop.fit(999, 0), 3);
        is("29 stage", bench.shop.fit(1000, 0), RANGE);
        is("29 stage", bench.shop.fit(-1, 0), RANGE);
        is("29 what", bench.shop.fit(0, 2), RANGE);
        is("29 what", bench.shop.fit(0, -1), RANGE);
        is("29 right again", bench.shop.right(3, 2, 4), 2);
        is("29 the latest of a stage", bench.shop.fit(3, 0), 0);
        Bench all = Bench.with(ONE);
        is("29 all", all.shop.fit(0, 0), 1525);
        is("29 first", all.shop.fit(0, 1), 0);
        is("29 gauge", all.shop.gauge(0, 11, 0, 0), 0);
        // HEAT 0 alone; -1 with g 1 or w 2; -2 with g 2, w 4, or g 1 and w 2; each w with twelve f.
        is("29 even", all.shop.fit(0, 0), 1 + (1 + 12) + (1 + 12 + 12));
    }

    private static void promise30() {
        Bench bench = Bench.with("tool a 1 1; tool b 1 1; step a 1; step b 1; step b 2;");
        int dulls = 13;
        int worns = 121;
        int n = (3 * worns + 1 + 60 + 7 * 5 + 3) * dulls + 1 + 2 * 4 + 1;
        int[] due = {1, 1, 7, 4, 2, 2};
        int[] none = {-2, NONE, 0, 0, NONE, 0};
        int[] last = {2, 1, 11, 5, 2, 4};
        for (int what = 0; what < 6; what++) {
            is("30 cause " + what, bench.shop.cause(n, what), due[what]);
            is("30 first " + what, bench.shop.cause(0, what), none[what]);
            is("30 last " + what, bench.shop.cause(5 * dulls * worns - 1, what), last[what]);
        }
        is("30 beyond", bench.shop.cause(5 * dulls * worns, 0), -9);
        is("30 below", bench.shop.cause(-1, 0), -9);
        is("30 what", bench.shop.cause(0, 6), -9);
        is("30 what", bench.shop.cause(0, -1), -9);
        is("30 no tools", new Bench().shop.cause(4, 0), 2);
        is("30 no tools", new Bench().shop.cause(5, 0), -9);
    }

    private static void promise31() {
        Bench bench = Bench.with("tool a 1 1; tool b 1 1; step a 1; step b 1; step b 2;");
        // HEAT 1, TOOL 1 from 7 on by 4, STEP 2 by 2.
        int n = (3 * 121 + 1 + 60 + 7 * 5 + 3) * 13 + 1 + 2 * 4 + 1;
        int[][] due = {{0, 0, 0, 0}, {4, 0, 0, 1}, {6, 1, 1, 3}, {7, 1, 5, 7}, {39, 7, 11, 26}};
        for (int[] one : due) {
            for (int s = 0; s < 3; s++) is("31 tells " + one[0] + " " + s, bench.shop.tells(n, one[0], s), one[1 + s]);
        }
        is("31 towards 0", bench.shop.tells(0, 4, 0), -1);
        is("31 towards 0", bench.shop.tells(121 * 13, 4, 0), 0);
        is("31 cause", bench.shop.tells(5 * 121 * 13, 0, 0), -9999);
        is("31 cause", bench.shop.tells(-1, 0, 0), -9999);
        is("31 part", bench.shop.tells(0, 40, 0), -9999);
        is("31 part", bench.shop.tells(0, -1, 0), -9999);
        is("31 step", bench.shop.tells(0, 0, 3), -9999);
        is("31 step", bench.shop.tells(0, 0, -1), -9999);
    }

    private static void promise32() {
        Bench bench = gauged();
        is("32 surely", bench.shop.surelyWorn(0, 1), 1);
        is("32 none fit", bench.shop.surelyWorn(0, 2), NONE);
        is("32 right", bench.shop.surelyWorn(0, 3), 1);
        is("32 tool", bench.shop.surelyWorn(1, 1), RANGE);
        is("32 tool", bench.shop.surelyWorn(-1, 1), RANGE);
        is("32 stage", bench.shop.surelyWorn(0, -1), RANGE);
        is("32 stage", bench.shop.surelyWorn(0, 1000), RANGE);
        is("32 perhaps", Bench.with(ONE).shop.surelyWorn(0, 0), 2);
        Bench two = Bench.with("tool a 1 1; tool b 1 1; step a 1; step b 1;");
        is("32 gauge", two.shop.gauge(0, 0, 0, 5), 0);
        is("32 the one", two.shop.surelyWorn(0, 0), 1);
        is("32 not the other", two.shop.surelyWorn(1, 0), 0);
        is("32 not told then", Bench.with("tool a 1 1;").shop.surelyWorn(0, 999), 2);
    }

    private static void promise33() {
        Bench bench = gauged();
        is("33 perhaps", bench.shop.surelyDull(0, 0), 2);
        is("33 none fit", bench.shop.surelyDull(0, 2), NONE);
        is("33 step", bench.shop.surelyDull(1, 1), RANGE);
        is("33 step", bench.shop.surelyDull(-1, 1), RANGE);
        is("33 stage", bench.shop.surelyDull(0, -1), RANGE);
        is("33 stage", bench.shop.surelyDull(0, 1000), RANGE);
        Bench two = Bench.with("tool a 1 1; step a 1; step a 1;");
        is("33 gauge", two.shop.gauge(0, 5, 0, 4), 0);
        is("33 gauge", two.shop.gauge(1, 5, 1, 0), 1);
        // Both STEPS have one TOOL: only a DULL one tells them apart.
        is("33 perhaps", two.shop.surelyDull(0, 0), 2);
        is("33 surely", two.shop.surelyDull(0, 1), 1);
        is("33 not", two.shop.surelyDull(1, 1), 0);
    }

    private static void promise34() {
        is("34 no steps", new Bench().shop.next(), NONE);
        is("34 none parts them", gauged().shop.next(), NONE);
        Bench bench = Bench.with(ONE);
        is("34 gauge", bench.shop.gauge(0, 0, 0, 0), 0);
        is("34 gauge", bench.shop.gauge(0, 39, 0, 2), 1);
        is("34 gauge", bench.shop.gauge(0, 5, 0, 0), 2);
        // Worn by 2 from 6 .. 11 on, HEAT and DULL evened out in three ways: the most alike are fewest in the middle.
        is("34 fit", bench.shop.fit(0, 0), 18);
        is("34 next", bench.shop.next(), 80);
        is("34 none", bench.shop.gauge(0, 0, 0, 50), 3);
        is("34 none fit", bench.shop.next(), NONE);
        is("34 the later is known", bench.shop.right(999, 3, 0), 1);
        is("34 next", bench.shop.next(), 80);
        Bench two = Bench.with("tool a 1 1; step a 1; step a 1;");
        for (int i = 0; i < 40; i += 39) {
            is("34 gauge", two.shop.gauge(0, i, 0, 2), i / 39 * 2);
            is("34 gauge", two.shop.gauge(0, i, 1, i == 0 ? 2 : 9), i / 39 * 2 + 1);
        }
        // Of STEP 1: HEAT 0 and DULL by 1 alone; all is known of it.
        is("34 one", two.shop.fit(0, 0), 1);
        is("34 one", two.shop.next(), NONE);
    }

    private static void promise35() {
        Bench bench = gauged();
        is("35 at once", bench.shop.halt(2, 0), 0);
        is("35 by some", bench.shop.halt(3, 0), 2);
        is("35 never", bench.shop.halt(3, 1), NONE);
        is("35 none fit", bench.shop.halt(0, 2), NONE);
        is("35 limit", bench.shop.halt(-1, 0), RANGE);
        is("35 limit", bench.shop.halt(100, 0), RANGE);
        is("35 stage", bench.shop.halt(0, -1), RANGE);
        is("35 stage", bench.shop.halt(0, 1000), RANGE);
        Bench all = Bench.with(ONE);
        is("35 the most", all.shop.halt(50, 0), 39);
        is("35 beyond", all.shop.halt(51, 0), NONE);
        is("35 far beyond", all.shop.halt(99, 0), NONE);
        Bench below = Bench.with(ONE);
        is("35 gauge", below.shop.gauge(0, 39, 0, -15), 0);
        // HEAT -2 and nothing else: -14 from part 35 on.
        is("35 below", below.shop.halt(13, 0), 35);
        is("35 below", below.shop.halt(14, 0), 38);
        is("35 below", below.shop.halt(15, 0), NONE);
        Bench late = Bench.with(ONE);
        is("35 gauge", late.shop.gauge(0, 9, 0, -3), 0);
        is("35 gauge", late.shop.gauge(0, 10, 0, -3), 1);
        is("35 gauge", late.shop.gauge(0, 39, 0, -14), 2);
        // HEAT -2 and worn by 1 from part 10 on alone: -3 from 8 on, -4 from 13 on.
        is("35 one", late.shop.fit(0, 0), 1);
        is("35 ahead of wear", late.shop.halt(2, 0), 8);
        is("35 behind wear", late.shop.halt(3, 0), 13);
        is("35 no steps", Bench.with("tool a 1 1;").shop.halt(0, 0), NONE);
    }

    private static void promise36() {
        Bench bench = gauged();
        // The least CAUSE at stage 0: HEAT -2, worn by 3.
        is("36 above", bench.shop.bin(0, 2, 0), 1);
        is("36 within", bench.shop.bin(0, 3, 0), 0);
        is("36 below", bench.shop.bin(39, 11, 0), 2);
        is("36 within", bench.shop.bin(39, 12, 0), 0);
        is("36 none fit", bench.shop.bin(0, 0, 2), NONE);
        is("36 part", bench.shop.bin(40, 0, 0), RANGE);
        is("36 part", bench.shop.bin(-1, 0, 0), RANGE);
        is("36 limit", bench.shop.bin(0, -1, 0), RANGE);
        is("36 limit", bench.shop.bin(0, 100, 0), RANGE);
        is("36 stage", bench.shop.bin(0, 0, -1), RANGE);
        is("36 stage", bench.shop.bin(0, 0, 1000), RANGE);
        Bench two = Bench.with("tool a 1 1; tool b 1 1; step a 1; step b 1;");
        is("36 gauge", two.shop.gauge(0, 0, 0, 5), 0);
        // HEAT -2, TOOL 0 by 5: of part 5 off by 3 and by -2.
        is("36 both", two.shop.bin(5, 1, 0), 3);
        is("36 above alone", two.shop.bin(5, 2, 0), 1);
        is("36 within", two.shop.bin(5, 3, 0), 0);
        is("36 below alone", two.shop.bin(20, 3, 0), 2);
        is("36 no steps", new Bench().shop.bin(39, 0, 999), 0);
    }

    private static void promise37() {
        Bench bench = gauged();
        bench.tape("abc");
        int[] due = {2, 3, 1, 3, 1525};
        for (int what = 0; what < 5; what++) is("37 count " + what, bench.shop.count(what), due[what]);
        is("37 others", bench.shop.count(5), NONE);
        is("37 others", bench.shop.count(-1), NONE);
        Bench most = Bench.with("tool a 1 1;tool b 1 1;tool c 1 1;tool d 1 1;tool e 1 1;tool f 1 1;"
                + "step a 1;step a 1;step a 1;step a 1;step a 1;step a 1;step a 1;");
        is("37 most causes", most.shop.count(4), 5 * 361 * 29);
        is("37 clauses", most.shop.count(0), 13);
    }
}
