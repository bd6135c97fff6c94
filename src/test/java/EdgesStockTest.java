/** Terms III with promises 14 to 26: each boundary that they name and what stands next to it, a method a sentence. */
public final class EdgesStockTest {
    private static final int NONE = -1;
    private static final int RANGE = -2;
    private static final int STATE = -4;
    private static final int[] FAR = {Integer.MIN_VALUE, -1000, 1000, Integer.MAX_VALUE};

    /** TOOL a's DISC is 10 at MARK 0, else 0; TOOL b's is 4 a MARK; TOOL c has no STEP. */
    private static final String AT_0 = "tool a 1 60; tool b 50 1; tool c 1 1; step a 10; step b 400; idle 0;";
    /** TOOL a's DISC is 10 at MARK 50, else 0. */
    private static final String AT_50 = "tool a 1 60; tool b 50 1; step b 400; step a 10; step b 400; after 0 1; idle 0;";
    /** Six TOOLS whose DISCS are all alike: a tenth of the MARK, 450 in all. */
    private static final String SIX_ALIKE = "tool a 1 60;tool b 1 60;tool c 1 60;tool d 1 60;tool e 1 60;tool f 1 60;"
            + "step a 10;step b 10;step c 10;step d 10;step e 10;step f 10;idle 0;";

    public static void main(String[] args) {
        oldDiscsMinus1To4();
        bytesOfAnOldDisc();
        heightsOfAnOldDisc();
        eitherByteOfAHeight();
        oldDiscThatIsNoneStays();
        marksOfWas();
        basesOfKeep();
        numbersOfKeep();
        keepAToolWithoutSteps();
        oldDiscsStayBehindPart();
        turnsThatGoRound();
        leastTurnOfAlikeOnes();
        baseIsTheGreatest();
        noBaseAtAll();
        fileForAToolWithoutSteps();
        numbersOfFile();
        prices();
        shareWithoutTools();
        shareWithoutFitting();
        priceNextToFiling();
        leastRowOfAlikeOnes();
        sharedAheadAndBehind();
        boxesOfNoneAndTen();
        teethOfABox();
        boxThatIsNoneStays();
        numbersOfTeeth();
        ratios();
        withoutEach();
        noTrain();
        twoAheadOfFour();
        wheelsOfATrain();
        offOfTheLatestTrain();
        spares();
        wornInOrder();
        wornWheelOfTwo();
        wornWheelOfFour();
        trainStaysBehindBox();
        Bench.closeTest("EdgesStockTest");
    }

    private static void is(String what, long got, long want) {
        Bench.is(what, got, want);
    }

    private static int[] spike(int flat, int mark, int height) {
        int[] heights = Bench.flat(flat);
        heights[mark] = height;
        return heights;
    }

    private static void files(Bench bench, int t, int k, int turn, int base, int filed) {
        is("turn", bench.shop.file(t, k, 0), turn);
        is("base", bench.shop.file(t, k, 1), base);
        is("filed off", bench.shop.file(t, k, 2), filed);
    }

    private static void gets(Bench bench, int... due) {
        for (int t = 0; t < due.length; t++) is("shared " + t, bench.shop.shared(t), due[t]);
    }

    private static void trains(Bench bench, int p, int q, int without, int... row) {
        String what = "train " + p + " " + q + " " + without;
        is(what, bench.shop.train(p, q, without), row.length);
        for (int i = 0; i < 4; i++) is(what + " wheel " + i, bench.shop.wheel(i), i < row.length ? row[i] : NONE);
    }

    private static void off(Bench bench, long upper, long lower) {
        is("off", bench.shop.off(false), upper);
        is("off below", bench.shop.off(true), lower);
    }

    // ---- promises 14 and 15

    /** "OLD DISCS 0 .. 3"; "RANGE: no such DISC" */
    private static void oldDiscsMinus1To4() {
        Bench bench = new Bench();
        for (int k = -1; k <= 4; k++) is("old " + k, bench.old(k, Bench.flat(10 * k + 10)), k >= 0 && k < 4 ? 1 : RANGE);
        for (int k = 0; k < 4; k++) {
            is("was " + k, bench.shop.was(k, 0), 10 * k + 10);
            is("was " + k, bench.shop.was(k, 99), 10 * k + 10);
        }
        for (int k : FAR) is("old " + k, bench.old(k, Bench.flat(5)), RANGE);
        is("no row for no such disc", bench.tape("0").shop.old(4), RANGE);
        is("no row for no such disc", bench.tape("").shop.old(-1), RANGE);
        is("the last stays", bench.shop.was(3, 99), 40);
    }

    /** "200 bytes, two a height .. NONE: it is no such row" */
    private static void bytesOfAnOldDisc() {
        Bench bench = new Bench();
        is("200 bytes", bench.tape("12".repeat(100)).shop.old(2), 1);
        for (int bytes : new int[] {0, 1, 2, 198, 199, 201, 202, 400, 800}) {
            is(bytes + " bytes", bench.tape("3".repeat(bytes)).shop.old(2), NONE);
        }
        is("stays", bench.shop.was(2, 0), 102);
        is("stays", bench.shop.was(2, 99), 102);
        is("blanks are no part of it", bench.tape(" " + "12".repeat(100)).shop.old(2), NONE);
        is("200 bytes again", bench.tape("21".repeat(100)).shop.old(2), 1);
        is("all anew", bench.shop.was(2, 0), 201);
        is("all anew", bench.shop.was(2, 99), 201);
    }

    /** "100 heights 0 .. 999 each (0 at first)" */
    private static void heightsOfAnOldDisc() {
        Bench bench = new Bench();
        for (int k = 0; k < 4; k++) {
            for (int m = 0; m < 100; m += 9) is("0 at first", bench.shop.was(k, m), 0);
        }
        for (int mark : new int[] {0, 1, 50, 98, 99}) {
            is("old of 0 and 999", bench.old(0, spike(0, mark, 999)), 1);
            for (int m : new int[] {0, 1, 49, 50, 98, 99}) is("was " + m, bench.shop.was(0, m), m == mark ? 999 : 0);
        }
        for (int mark : new int[] {0, 1, 50, 98, 99}) {
            Bench next = new Bench();
            // 48 and 47 make -1; 57 and 148 make 1000.
            is("-1 at " + mark, next.tape(row(mark, "0/")).shop.old(0), NONE);
            is("1000 at " + mark, next.tape(row(mark, "9\u0094")).shop.old(0), NONE);
            is("999 at " + mark, next.tape(row(mark, "9\u0093")).shop.old(0), 1);
            is("was 999", next.shop.was(0, mark), 999);
            is("0 at " + mark, next.tape(row(mark, "00")).shop.old(0), 1);
            is("was 0", next.shop.was(0, mark), 0);
        }
    }

    private static String row(int mark, String two) {
        return "12".repeat(mark) + two + "12".repeat(99 - mark);
    }

    /** "100 times the first less 4800, and the second less 48 (both so that it is 0 .. 999)" */
    private static void eitherByteOfAHeight() {
        String[] twos = {"/\u0094", "/\u0093", "1/", ":0", ":/", ".\u00ff", "0\u00ff", "8\u00f7", "8\u00f8", "0\u0000", "1\u0000", "\u00ff0", "\u00000"};
        int[] due = {0, NONE, 99, NONE, 999, 7, 207, 999, NONE, NONE, 52, NONE, NONE};
        for (int n = 0; n < twos.length; n++) {
            Bench bench = new Bench();
            is("old " + n, bench.tape(row(37, twos[n])).shop.old(1), due[n] == NONE ? NONE : 1);
            is("was " + n, bench.shop.was(1, 37), due[n] == NONE ? 0 : due[n]);
        }
    }

    private static void oldDiscThatIsNoneStays() {
        Bench bench = new Bench();
        is("old", bench.old(1, Bench.flat(321)), 1);
        is("none at its last height", bench.tape("00".repeat(99) + "0/").shop.old(1), NONE);
        for (int m = 0; m < 100; m++) is("was", bench.shop.was(1, m), 321);
    }

    /** "The old height of a DISC at a MARK; RANGE." */
    private static void marksOfWas() {
        Bench bench = new Bench();
        is("old", bench.old(0, Bench.flat(11)), 1);
        is("old", bench.old(3, Bench.flat(33)), 1);
        int[] discs = {-1, 0, 3, 4};
        int[] heights = {RANGE, 11, 33, RANGE};
        for (int n = 0; n < 4; n++) {
            for (int m : new int[] {-1, 0, 99, 100}) {
                is("was " + discs[n] + " " + m, bench.shop.was(discs[n], m), m < 0 || m > 99 ? RANGE : heights[n]);
            }
        }
        for (int far : FAR) {
            is("was", bench.shop.was(far, 0), RANGE);
            is("was", bench.shop.was(0, far), RANGE);
        }
    }

    // ---- promise 16

    /** "with a base (0 .. 500): the greatest height" */
    private static void basesOfKeep() {
        Bench bench = Bench.with(AT_0);
        is("base 0", bench.shop.keep(0, 0, 0), 10);
        is("at 0", bench.shop.was(0, 0), 10);
        is("at 1", bench.shop.was(0, 1), 0);
        is("base 500", bench.shop.keep(0, 0, 500), 510);
        is("at 0", bench.shop.was(0, 0), 510);
        is("at 99", bench.shop.was(0, 99), 500);
        is("base -1", bench.shop.keep(0, 0, -1), RANGE);
        is("base 501", bench.shop.keep(0, 0, 501), RANGE);
        is("stays", bench.shop.was(0, 0), 510);
        is("base 1", bench.shop.keep(0, 0, 1), 11);
        is("base 499", bench.shop.keep(0, 0, 499), 509);
        Bench most = Bench.with("tool a 1 1; step a 400; idle 40;");
        is("the most", most.shop.keep(0, 3, 500), 900);
        is("the most", most.shop.was(3, 60), 900);
    }

    private static void numbersOfKeep() {
        Bench bench = Bench.with(AT_0);
        for (int t = -1; t <= 3; t++) {
            for (int k = -1; k <= 4; k++) {
                boolean isThere = t >= 0 && t < 3 && k >= 0 && k < 4;
                int most = t == 0 ? 10 : t == 1 ? 396 : 0;
                is("keep " + t + " " + k, bench.shop.keep(t, k, 3), isThere ? most + 3 : RANGE);
            }
        }
        for (int far : FAR) {
            is("keep", bench.shop.keep(far, 0, 0), RANGE);
            is("keep", bench.shop.keep(0, far, 0), RANGE);
            is("keep", bench.shop.keep(0, 0, far), RANGE);
        }
    }

    private static void keepAToolWithoutSteps() {
        Bench bench = Bench.with(AT_0);
        is("old", bench.old(1, Bench.flat(77)), 1);
        is("keep", bench.shop.keep(2, 1, 0), 0);
        for (int m = 0; m < 100; m++) is("was", bench.shop.was(1, m), 0);
        is("keep", bench.shop.keep(2, 1, 9), 9);
        for (int m = 0; m < 100; m++) is("was", bench.shop.was(1, m), 9);
    }

    private static void oldDiscsStayBehindPart() {
        Bench bench = Bench.with(AT_0);
        is("keep", bench.shop.keep(0, 2, 5), 15);
        is("another part", bench.part(AT_50), 7);
        is("as it is", bench.shop.was(2, 0), 15);
        is("as it is", bench.shop.was(2, 50), 5);
        // The new DISC has its 10 at MARK 50: the OLD one must be turned by half a round.
        files(bench, 0, 2, 50, 5, 0);
        is("no part", bench.part(""), 0);
        is("as it is", bench.shop.was(2, 0), 15);
    }

    // ---- promise 17

    /** "old height at (m and r, going round) is HEIGHT at m and b or more for all m" */
    private static void turnsThatGoRound() {
        for (int mark : new int[] {0, 1, 2, 25, 48, 49, 50, 51, 52, 75, 98, 99}) {
            Bench first = Bench.with(AT_0);
            is("old", first.old(0, spike(0, mark, 15)), 1);
            files(first, 0, 0, mark, 0, 5);
            Bench half = Bench.with(AT_50);
            is("old", half.old(3, spike(20, mark, 35)), 1);
            files(half, 0, 3, (mark + 50) % 100, 20, 5);
        }
    }

    /** "BEST TURN: with the least FILED OFF; of alike ones the least r" */
    private static void leastTurnOfAlikeOnes() {
        Bench bench = Bench.with(AT_0);
        is("flat", bench.old(0, Bench.flat(10)), 1);
        files(bench, 0, 0, 0, 0, 990);
        int[] two = spike(0, 99, 12);
        two[7] = 12;
        is("two spikes", bench.old(1, two), 1);
        // By either one 2 are taken off, and 12 of the other.
        files(bench, 0, 1, 7, 0, 14);
        two[7] = 11;
        is("a lower one ahead", bench.old(1, two), 1);
        files(bench, 0, 1, 7, 0, 13);
        int[] base = spike(3, 99, 14);
        base[7] = 12;
        is("a better base behind", bench.old(1, base), 1);
        // At 7 the base is 2, at 99 it is 3.
        files(bench, 0, 1, 99, 3, 10);
    }

    /** "the base is the greatest such" */
    private static void baseIsTheGreatest() {
        Bench bench = Bench.with(AT_0);
        is("flat", bench.old(0, Bench.flat(999)), 1);
        files(bench, 0, 0, 0, 989, 990);
        is("high spike", bench.old(0, spike(30, 0, 999)), 1);
        files(bench, 0, 0, 0, 30, 959);
        is("one low mark", bench.old(0, spike(30, 0, 0)), 1);
        // Any turn but 0 puts the DISC's 10 on a 30; the low MARK alone holds the base down.
        files(bench, 0, 0, 1, 0, 99 * 30 - 10);
    }

    /** "(None, if there is no base.)" */
    private static void noBaseAtAll() {
        Bench bench = Bench.with(AT_0);
        files(bench, 0, 0, NONE, NONE, NONE);
        is("too low by one", bench.old(0, Bench.flat(9)), 1);
        files(bench, 0, 0, NONE, NONE, NONE);
        is("just high enough", bench.old(0, spike(9, 42, 10)), 1);
        files(bench, 0, 0, 42, 0, 891);
        is("too low again", bench.old(0, spike(9, 42, 9)), 1);
        files(bench, 0, 0, NONE, NONE, NONE);
        // No turn has two high MARKS side by side.
        Bench wide = Bench.with("tool a 1 5; tool b 50 1; step a 10; step b 400; idle 0;");
        int[] apart = spike(4, 0, 100);
        for (int m = 0; m < 100; m += 2) apart[m] = 100;
        is("apart", wide.old(0, apart), 1);
        files(wide, 0, 0, NONE, NONE, NONE);
        apart[99] = 5;
        is("one low one is high enough", wide.old(0, apart), 1);
        files(wide, 0, 0, 98, 0, 50 * 100 + 49 * 4 + 5 - 15);
    }

    private static void fileForAToolWithoutSteps() {
        Bench bench = Bench.with(AT_0);
        files(bench, 2, 0, 0, 0, 0);
        is("old", bench.old(0, spike(25, 60, 26)), 1);
        files(bench, 2, 0, 0, 25, 1);
    }

    private static void numbersOfFile() {
        Bench bench = Bench.with(AT_0);
        for (int k = 0; k < 4; k++) is("old", bench.old(k, spike(500, 3, 511)), 1);
        int[] firstTool = {3, 500, 1};
        for (int t = -1; t <= 3; t++) {
            for (int k = -1; k <= 4; k++) {
                for (int what = -1; what <= 3; what++) {
                    boolean isThere = t >= 0 && t < 3 && k >= 0 && k < 4 && what >= 0 && what < 3;
                    int got = bench.shop.file(t, k, what);
                    is("file " + t + " " + k + " " + what, got == RANGE ? 0 : 1, isThere ? 1 : 0);
                    if (isThere && t == 0) is("file " + k + " " + what, got, firstTool[what]);
                }
            }
        }
        for (int far : FAR) {
            is("file", bench.shop.file(far, 0, 0), RANGE);
            is("file", bench.shop.file(0, far, 0), RANGE);
            is("file", bench.shop.file(0, 0, far), RANGE);
        }
        is("old", bench.old(0, Bench.flat(0)), 1);
        is("no base and no such number", bench.shop.file(0, 0, 3), RANGE);
    }

    // ---- promises 18 and 19

    /** "SHARED OUT at a price (0 .. 99999) of new DISCS: the sum; RANGE." */
    private static void prices() {
        Bench bench = Bench.with(AT_0);
        is("price 0", bench.shop.share(0), 0);
        is("price 1", bench.shop.share(1), 2);
        is("price 99998", bench.shop.share(99998), 199996);
        is("price 99999", bench.shop.share(99999), 199998);
        is("price -1", bench.shop.share(-1), RANGE);
        is("price 100000", bench.shop.share(100000), RANGE);
        is("price", bench.shop.share(Integer.MIN_VALUE), RANGE);
        is("price", bench.shop.share(Integer.MAX_VALUE), RANGE);
    }

    private static void shareWithoutTools() {
        for (String text : new String[] {"", "tool a 1 1;", SIX_ALIKE.substring(0, 72)}) {
            Bench bench = Bench.with(text);
            is("price 0", bench.shop.share(0), 0);
            is("price 99999", bench.shop.share(99999), 0);
            gets(bench, NONE, NONE, NONE, NONE, NONE, NONE);
            is("price -1", bench.shop.share(-1), RANGE);
            is("price 100000", bench.shop.share(100000), RANGE);
        }
    }

    private static void shareWithoutFitting() {
        Bench bench = Bench.with(SIX_ALIKE);
        is("the most", bench.shop.share(99999), 599994);
        gets(bench, NONE, NONE, NONE, NONE, NONE, NONE);
        is("nothing", bench.shop.share(0), 0);
        gets(bench, NONE, NONE, NONE, NONE, NONE, NONE);
    }

    /** "gets an OLD DISC of its own by its BEST TURN (at FILED OFF), or a new one (at a told price): the least sum" */
    private static void priceNextToFiling() {
        Bench bench = Bench.with(SIX_ALIKE);
        for (int k = 0; k < 4; k++) is("flat", bench.old(k, Bench.flat(9)), 1);
        files(bench, 5, 3, 0, 0, 900 - 450);
        is("new ones are dearer", bench.shop.share(451), 4 * 450 + 2 * 451);
        gets(bench, 0, 1, 2, 3, NONE, NONE);
        is("new ones are cheaper", bench.shop.share(449), 6 * 449);
        gets(bench, NONE, NONE, NONE, NONE, NONE, NONE);
        is("alike", bench.shop.share(450), 6 * 450);
        gets(bench, 0, 1, 2, 3, NONE, NONE);
        is("for nothing", bench.shop.share(0), 0);
        gets(bench, NONE, NONE, NONE, NONE, NONE, NONE);
        for (int k = 0; k < 4; k++) is("its own", bench.shop.keep(0, k, 20), 29);
        is("nothing to file, at a price of nothing", bench.shop.share(0), 0);
        gets(bench, 0, 1, 2, 3, NONE, NONE);
    }

    /** "of alike ones the least row (by TOOLS; OLD DISCS by numbers, a new one behind them)" */
    private static void leastRowOfAlikeOnes() {
        Bench bench = Bench.with(AT_0);
        is("old", bench.old(1, Bench.flat(400)), 1);
        is("old", bench.old(3, Bench.flat(400)), 1);
        // a's one MARK of 10 leaves a base of 390; b's sum is 4 * 4950, its highest 396.
        int a = 100 * 10 - 10;
        int b = 100 * 396 - 4 * 4950;
        files(bench, 0, 1, 0, 390, a);
        files(bench, 1, 3, 0, 4, b);
        is("both", bench.shop.share(99999), a + b);
        gets(bench, 1, 3, NONE, NONE);
        is("b is too dear", bench.shop.share(b - 1), a + b - 1);
        gets(bench, 1, NONE, NONE, NONE);
        is("lower for b", bench.old(1, Bench.flat(395)), 1);
        is("other", bench.old(0, Bench.flat(0)), 1);
        is("a leaves the one that b needs", bench.shop.share(99999), a + b);
        gets(bench, 1, 3, NONE, NONE);
        is("too low for b", bench.old(3, Bench.flat(10)), 1);
        is("high enough for b", bench.old(1, Bench.flat(396)), 1);
        is("both for a, one for b", bench.shop.share(99999), a + b);
        gets(bench, 3, 1, NONE, NONE);
    }

    /** "NONE: a new one, none, or ahead of any (and behind part())" */
    private static void sharedAheadAndBehind() {
        Bench bench = Bench.with(AT_0);
        gets(bench, NONE, NONE, NONE, NONE);
        is("keep", bench.shop.keep(1, 2, 0), 396);
        is("ahead of any", bench.shop.shared(1), NONE);
        is("share", bench.shop.share(99999), 99999);
        gets(bench, NONE, 2, NONE, NONE);
        for (int t : new int[] {-1, 3, 6, Integer.MIN_VALUE, Integer.MAX_VALUE}) is("shared " + t, bench.shop.shared(t), NONE);
        is("refused", bench.shop.share(100000), RANGE);
        is("by the latest that told a sum", bench.shop.shared(1), 2);
        is("the disc itself may change", bench.old(2, Bench.flat(0)), 1);
        is("by the latest that told a sum", bench.shop.shared(1), 2);
        is("no part", bench.part("tool"), NONE);
        is("it stays", bench.shop.shared(1), 2);
        is("part", bench.part(AT_0), 6);
        gets(bench, NONE, NONE, NONE, NONE);
    }

    // ---- promises 20 and 21

    /** "THE BOX: at most 10 WHEELS" */
    private static void boxesOfNoneAndTen() {
        Bench bench = new Bench();
        String nine = "11 12 13 14 15 16 17 18 19";
        is("nine", bench.box(nine), 9);
        is("ten", bench.box(nine + " 20"), 10);
        is("told", bench.shop.told(3), 10);
        is("eleven", bench.box(nine + " 20 21"), NONE);
        is("twelve", bench.box(nine + " 20 21 22"), NONE);
        is("stays", bench.shop.told(3), 10);
        is("stays", bench.shop.teeth(9), 20);
        is("one", bench.box("33"), 1);
        is("told", bench.shop.told(3), 1);
        is("blanks", bench.box(" \n "), 0);
        is("told", bench.shop.told(3), 0);
        is("one", bench.box("\n33\n"), 1);
        is("empty", bench.box(""), 0);
        is("told", bench.shop.told(3), 0);
    }

    /** "WHEELS with 10 .. 200 teeth" */
    private static void teethOfABox() {
        int[] teeth = {0, 1, 9, 10, 11, 199, 200, 201, 999, 1000, 9999};
        for (int n : teeth) {
            boolean isOne = n >= 10 && n <= 200;
            Bench bench = new Bench();
            is("box " + n, bench.box("" + n), isOne ? 1 : NONE);
            is("told", bench.shop.told(3), isOne ? 1 : 0);
            is("teeth", bench.shop.teeth(0), isOne ? n : RANGE);
            is("box 50 " + n, bench.box("50 " + n), isOne ? 2 : NONE);
        }
        String[] texts = {"0010", "00010", "10;", "10 a", "a", "10,20", "-10", "10a", "10\t20", "1020", "10\u0000"};
        int[] due = {1, NONE, NONE, NONE, NONE, NONE, NONE, NONE, NONE, NONE, NONE};
        for (int n = 0; n < texts.length; n++) is("box " + texts[n], new Bench().box(texts[n]), due[n]);
    }

    /** "NONE: it is none (it stays)" */
    private static void boxThatIsNoneStays() {
        Bench bench = new Bench();
        is("box", bench.box("10 20 30"), 3);
        for (String none : new String[] {"40 50 60 9", "40 50 201", "40;", "x", "40 50 60 70 80 90 100 110 120 130 140"}) {
            is("none", bench.box(none), NONE);
            is("wheels", bench.shop.told(3), 3);
            for (int i = 0; i < 3; i++) is("teeth " + i, bench.shop.teeth(i), 10 * i + 10);
            is("teeth", bench.shop.teeth(3), RANGE);
        }
    }

    private static void numbersOfTeeth() {
        Bench bench = new Bench();
        is("no wheels", bench.shop.teeth(0), RANGE);
        is("box", bench.box("10 11 12 13 14 15 16 17 18 200"), 10);
        int[] numbers = {-1, 0, 9, 10, Integer.MIN_VALUE, Integer.MAX_VALUE};
        int[] due = {RANGE, 10, 200, RANGE, RANGE, RANGE};
        for (int n = 0; n < due.length; n++) is("teeth " + numbers[n], bench.shop.teeth(numbers[n]), due[n]);
        is("box", bench.box("44"), 1);
        is("teeth", bench.shop.teeth(0), 44);
        is("those of the old box are gone", bench.shop.teeth(1), RANGE);
    }

    // ---- promises 22 to 25

    /** "NEAREST for p over q (1 .. 9999 each)" */
    private static void ratios() {
        Bench bench = new Bench();
        is("box", bench.box("10 20"), 2);
        int[][] none = {{0, 1}, {1, 0}, {0, 0}, {-1, -1}, {10000, 1}, {1, 10000}, {10000, 10000}, {-1, 1}, {1, -1},
            {Integer.MIN_VALUE, 1}, {1, Integer.MAX_VALUE}};
        for (int[] one : none) {
            is("train " + one[0] + " " + one[1], bench.shop.train(one[0], one[1], NONE), RANGE);
            is("spare " + one[0] + " " + one[1], bench.shop.spare(one[0], one[1]), RANGE);
        }
        is("no train yet", bench.shop.wheel(0), NONE);
        trains(bench, 1, 1, NONE, 0, 1);
        off(bench, -1, 2);
        trains(bench, 9999, 9999, NONE, 0, 1);
        off(bench, -1, 2);
        trains(bench, 9999, 1, NONE, 1, 0);
        off(bench, -9997, 1);
        trains(bench, 1, 9999, NONE, 0, 1);
        off(bench, 9997, 19998);
        trains(bench, 2, 1, NONE, 1, 0);
        off(bench, 0, 1);
        // 5 over 4 is away from 2 and from 1 over 2 alike.
        trains(bench, 5, 4, NONE, 0, 1);
        off(bench, -3, 4);
        trains(bench, 5001, 4000, NONE, 1, 0);
        off(bench, 2999, 4000);
    }

    /** "WITHOUT a WHEEL: NEAREST of those without it" */
    private static void withoutEach() {
        Bench bench = new Bench();
        is("box", bench.box("10 20 30 60"), 4);
        trains(bench, 2, 1, NONE, 1, 0);
        trains(bench, 2, 1, 0, 3, 2);
        trains(bench, 2, 1, 1, 3, 2);
        trains(bench, 2, 1, 2, 1, 0);
        trains(bench, 2, 1, 3, 1, 0);
        trains(bench, 9, 1, NONE, 2, 0, 3, 1);
        off(bench, 0, 1);
        trains(bench, 9, 1, 0, 3, 1);
        off(bench, -6, 1);
        trains(bench, 9, 1, 1, 3, 0);
        off(bench, -3, 1);
        trains(bench, 9, 1, 2, 3, 0);
        trains(bench, 9, 1, 3, 2, 0);
        for (int without : new int[] {-2, 4, 5, 10, 31, 32, Integer.MIN_VALUE, Integer.MAX_VALUE}) {
            is("without " + without, bench.shop.train(2, 1, without), RANGE);
        }
        is("stays", bench.shop.wheel(0), 2);
        is("box of ten", bench.box("10 20 40 50 70 80 100 110 130 190"), 10);
        trains(bench, 19, 1, NONE, 9, 0);
        trains(bench, 19, 2, 0, 9, 1);
        // No two of the others come near to 19.
        is("without the last", bench.shop.train(19, 1, 9), 4);
        for (int i = 0; i < 4; i++) is("not the last", bench.shop.wheel(i) == 9 ? 1 : 0, 0);
        is("no such one", bench.shop.train(19, 1, 10), RANGE);
    }

    /** "NONE: there is no TRAIN" */
    private static void noTrain() {
        Bench bench = new Bench();
        is("no wheels", bench.shop.train(1, 1, NONE), NONE);
        is("no wheels, without one", bench.shop.train(1, 1, 0), RANGE);
        is("box", bench.box("50"), 1);
        is("one wheel", bench.shop.train(1, 1, NONE), NONE);
        is("one wheel, without it", bench.shop.train(1, 1, 0), NONE);
        off(bench, 0, NONE);
        is("box", bench.box("50 60"), 2);
        is("two wheels, without one", bench.shop.train(1, 1, 0), NONE);
        is("two wheels, without one", bench.shop.train(1, 1, 1), NONE);
        is("no train", bench.shop.wheel(0), NONE);
        trains(bench, 1, 1, NONE, 0, 1);
        is("none behind one", bench.shop.train(1, 1, 0), NONE);
        is("it stays", bench.shop.wheel(1), 1);
        off(bench, -1, 6);
        is("box", bench.box("50 60 70"), 3);
        trains(bench, 1, 1, 0, 1, 2);
        is("a ratio ahead of no train", new Bench().shop.train(0, 1, NONE), RANGE);
    }

    /** "of alike ones that of two, then the least row of WHEELS" */
    private static void twoAheadOfFour() {
        Bench bench = new Bench();
        is("box", bench.box("20 20 20 20 40"), 5);
        trains(bench, 1, 1, NONE, 0, 1);
        trains(bench, 2, 1, NONE, 4, 0);
        trains(bench, 1, 2, NONE, 0, 4);
        trains(bench, 1, 2, 0, 1, 4);
        is("box", bench.box("20 30 40 60"), 4);
        trains(bench, 1, 4, NONE, 0, 2, 1, 3);
        trains(bench, 4, 1, NONE, 2, 0, 3, 1);
    }

    private static void wheelsOfATrain() {
        Bench bench = new Bench();
        for (int i = -1; i <= 4; i++) is("ahead of any", bench.shop.wheel(i), NONE);
        is("box", bench.box("10 20 30 60"), 4);
        trains(bench, 9, 1, NONE, 2, 0, 3, 1);
        for (int i : new int[] {-1, 4, Integer.MIN_VALUE, Integer.MAX_VALUE}) is("wheel " + i, bench.shop.wheel(i), NONE);
        // A TRAIN of two behind one of four has no third and fourth.
        trains(bench, 2, 1, NONE, 1, 0);
        for (int i : new int[] {-1, 4, Integer.MIN_VALUE, Integer.MAX_VALUE}) is("wheel " + i, bench.shop.wheel(i), NONE);
    }

    /** "Of it OFF .. NONE ahead of any for the lower one, 0 for the upper one" */
    private static void offOfTheLatestTrain() {
        Bench bench = new Bench();
        off(bench, 0, NONE);
        is("refused", bench.shop.train(0, 0, 0), RANGE);
        is("none", bench.shop.train(1, 1, NONE), NONE);
        off(bench, 0, NONE);
        is("box", bench.box("200 199 10 11"), 4);
        trains(bench, 1, 9999, NONE, 2, 0, 3, 1);
        // 110 over 39800 is 11 over 3980.
        off(bench, 11L * 9999 - 3980, 3980L * 9999);
        is("refused", bench.shop.train(1, 10000, NONE), RANGE);
        is("spare", bench.shop.spare(1, 1), 0);
        off(bench, 11L * 9999 - 3980, 3980L * 9999);
        trains(bench, 9998, 9999, NONE, 1, 0);
        off(bench, 199L * 9999 - 200L * 9998, 200L * 9999);
    }

    /** "SPARE: how many TRAINS have just the RATIO p over q" */
    private static void spares() {
        Bench bench = new Bench();
        is("empty box", bench.shop.spare(1, 1), 0);
        is("box", bench.box("30"), 1);
        is("one wheel", bench.shop.spare(1, 1), 0);
        is("box", bench.box("30 30"), 2);
        is("two alike", bench.shop.spare(1, 1), 2);
        is("two alike", bench.shop.spare(9999, 9999), 2);
        is("not just", bench.shop.spare(9998, 9999), 0);
        is("box", bench.box("30 30 30 30 30 30 30 30 30 30"), 10);
        is("all there are", bench.shop.spare(1, 1), 90 + 5040);
        is("all there are", bench.shop.spare(5, 5), 90 + 5040);
        is("none", bench.shop.spare(1, 2), 0);
        is("box", bench.box("10 100 20 200"), 4);
        // 10 over 100, 20 over 200; 10 * 20 over 100 * 200 is 1 over 100.
        is("a tenth", bench.shop.spare(1, 10), 2);
        is("a tenth", bench.shop.spare(999, 9990), 2);
        is("a hundredth", bench.shop.spare(1, 100), 4);
    }

    // ---- promise 26

    /** "RANGE: n; STATE: ahead of any train(); RANGE: no such WHEEL in it .. (in this order)" */
    private static void wornInOrder() {
        Bench bench = new Bench();
        int[] wheels = {-1, 0, 1, 3, 4, Integer.MIN_VALUE, Integer.MAX_VALUE};
        int[] fewer = {-1, 0, 1, 9, 10, Integer.MIN_VALUE, Integer.MAX_VALUE};
        for (int i : wheels) {
            for (int n : fewer) is("worn " + i + " " + n, bench.shop.worn(i, n), n >= 1 && n <= 9 ? STATE : RANGE);
        }
        is("box", bench.box("20 40"), 2);
        is("a box is no train", bench.shop.worn(0, 1), STATE);
        is("refused", bench.shop.train(1, 0, NONE), RANGE);
        is("refused is no train", bench.shop.worn(0, 1), STATE);
        is("none", bench.shop.train(1, 1, 0), NONE);
        is("none is no train", bench.shop.worn(0, 1), STATE);
        is("spare", bench.shop.spare(1, 2), 1);
        is("spare is no train", bench.shop.worn(0, 1), STATE);
        trains(bench, 1, 2, NONE, 0, 1);
        for (int i : wheels) {
            for (int n : fewer) {
                boolean isThere = (i == 0 || i == 1) && n >= 1 && n <= 9;
                is("worn " + i + " " + n, bench.shop.worn(i, n) == RANGE ? 0 : 1, isThere ? 1 : 0);
            }
        }
        is("no such wheel", bench.shop.worn(2, 1), RANGE);
    }

    /** "by how much the RATIO is more or less then, .. its upper number times 1000000 over its lower one (cut towards 0)" */
    private static void wornWheelOfTwo() {
        Bench bench = new Bench();
        is("box", bench.box("10 20"), 2);
        trains(bench, 1, 2, NONE, 0, 1);
        is("one tooth left", bench.shop.worn(0, 9), -450000);
        is("upper by one", bench.shop.worn(0, 1), -50000);
        is("lower by one", bench.shop.worn(1, 1), 26315);
        is("lower by nine", bench.shop.worn(1, 9), 409090);
        trains(bench, 2, 1, NONE, 1, 0);
        is("upper by nine", bench.shop.worn(0, 9), -900000);
        is("one tooth left below", bench.shop.worn(1, 9), 18000000);
        is("box", bench.box("10 30"), 2);
        trains(bench, 1, 3, NONE, 0, 1);
        is("cut towards 0", bench.shop.worn(0, 1), -33333);
        is("cut towards 0", bench.shop.worn(0, 2), -66666);
        is("cut towards 0", bench.shop.worn(1, 1), 11494);
        is("box", bench.box("200 10"), 2);
        trains(bench, 1, 20, NONE, 1, 0);
        is("little", bench.shop.worn(1, 1), 251);
    }

    private static void wornWheelOfFour() {
        Bench bench = new Bench();
        is("box", bench.box("10 20 30 60"), 4);
        trains(bench, 9, 1, NONE, 2, 0, 3, 1);
        // 30 * 60 over 10 * 20.
        long[] due = {-2700000, 81000000, -1350000, 7363636};
        for (int i = 0; i < 4; i++) is("worn " + i, bench.shop.worn(i, 9), due[i]);
        is("worn 3 by one", bench.shop.worn(3, 1), 473684);
        is("no fifth", bench.shop.worn(4, 1), RANGE);
        is("none below", bench.shop.worn(-1, 1), RANGE);
        is("n", bench.shop.worn(3, 10), RANGE);
        is("box", bench.box("10 10 200 200"), 4);
        trains(bench, 9999, 1, NONE, 2, 0, 3, 1);
        // 400 becomes 4000.
        is("the most", bench.shop.worn(1, 9), 3600000000L);
    }

    /** "in the TRAIN that is": another BOX makes no other TRAIN. */
    private static void trainStaysBehindBox() {
        Bench bench = new Bench();
        is("box", bench.box("10 20"), 2);
        trains(bench, 1, 2, NONE, 0, 1);
        is("empty box", bench.box(""), 0);
        is("wheel", bench.shop.wheel(1), 1);
        off(bench, 0, 1);
        is("worn", bench.shop.worn(0, 1), -50000);
        is("other box", bench.box("100 200"), 2);
        is("worn", bench.shop.worn(0, 1), -50000);
        is("no such wheel", bench.shop.worn(2, 1), RANGE);
        is("another part", bench.part(AT_0), 6);
        is("wheel", bench.shop.wheel(1), 1);
    }
}
