/** Terms II with promises 7 to 13: each boundary that they name and what stands next to it, a method a sentence. */
public final class EdgesPlanTest {
    private static final int NONE = -1;
    private static final int RANGE = -2;

    /** Three STEPS one behind the other, of TOOLS a, b, a. */
    private static final String ROW = "after 0 1; after 1 2;";

    public static void main(String[] args) {
        noSteps();
        stepsWithoutNumber();
        longestPlan();
        leastBeginOfTheFirstSteps();
        neverAtWorkInOneTurn();
        heldAtTheEnd();
        heldByTheSameTool();
        heldByOneThatWaits();
        heldByAToolThatMeets();
        rowsOfNoSteps();
        rowsThatAreNone();
        rowsAheadOfWhatTheyWaitFor();
        rowsIntoGaps();
        rowsLeaveThePlan();
        idle0And40();
        stepWithoutDwell();
        fallBeyondMark99();
        fallStopsAtItsOwnBegin();
        markCAtA();
        greatestOfItsSteps();
        marksOfHeight();
        numbersOfLobe();
        justSteep();
        justLate();
        lateBehindMark99();
        lateByItsOwnToolAlone();
        numbersOfWrong();
        leastSlope();
        slopeOf60AndBeyond();
        Bench.closeTest("EdgesPlanTest");
    }

    private static void is(String what, long got, long want) {
        Bench.is(what, got, want);
    }

    private static void begins(Bench bench, int length, int... due) {
        is("length", bench.shop.told(4), length);
        for (int k = 0; k < due.length; k++) is("begin " + k, bench.shop.begin(k), due[k]);
    }

    private static void helds(Bench bench, int... due) {
        for (int k = 0; k < due.length; k++) is("held " + k, bench.shop.held(k), due[k]);
    }

    private static void lobes(Bench bench, int k, int a, int c, int b) {
        is("A of " + k, bench.shop.lobe(k, 0), a);
        is("C of " + k, bench.shop.lobe(k, 1), c);
        is("B of " + k, bench.shop.lobe(k, 2), b);
    }

    /** Pairs of a MARK and the HEIGHT there. */
    private static void heights(Bench bench, int t, int... due) {
        for (int n = 0; n + 1 < due.length; n += 2) is("height " + t + " at " + due[n], bench.shop.height(t, due[n]), due[n + 1]);
    }

    // ---- the plan

    /** "LENGTH: the latest end (0 without STEPS)" */
    private static void noSteps() {
        for (String text : new String[] {"", "tool a 1 1;", "tool a 1 1; tool b 1 1; meet a b; idle 0;"}) {
            Bench bench = Bench.with(text);
            is("length", bench.shop.told(4), 0);
            is("begin", bench.shop.begin(0), RANGE);
            is("held", bench.shop.held(0), RANGE);
            is("lobe", bench.shop.lobe(0, 0), RANGE);
            is("steep", bench.shop.wrong(0), 0);
            is("late", bench.shop.wrong(1), 0);
            boolean isTool = !text.isEmpty();
            for (int m = 0; m < 100; m++) is("height", bench.shop.height(0, m), isTool ? 0 : RANGE);
            is("slope", bench.shop.slope(0), isTool ? 1 : RANGE);
        }
    }

    private static void stepsWithoutNumber() {
        Bench bench = Bench.with("tool a 1 1; step a 1; step a 2;");
        for (int k : new int[] {-1, 2, 7, Integer.MIN_VALUE, Integer.MAX_VALUE}) {
            is("begin " + k, bench.shop.begin(k), RANGE);
            is("held " + k, bench.shop.held(k), RANGE);
            for (int what = -1; what <= 5; what++) is("lobe " + k, bench.shop.lobe(k, what), RANGE);
        }
        begins(bench, 3, 0, 1);
    }

    private static void longestPlan() {
        Bench bench = Bench.with("tool a 50 60;" + "step a 400 99;".repeat(7) + "idle 0;");
        begins(bench, 140693, 0, 20099, 40198, 60297, 80396, 100495, 120594);
        is("turns", bench.shop.told(16), 20099);
        is("by row", bench.byRow("6543210"), 140693);
        // 120594, 140594 and 140693 times 100 over 140693.
        lobes(bench, 6, 85, 99, 100);
        Bench shortest = Bench.with("tool a 1 1; step a 1;");
        begins(shortest, 1, 0);
        lobes(shortest, 0, 0, 90, 90);
    }

    /** "of those with the least LENGTH that with the least begin of STEP 0, of these of STEP 1, and so on" */
    private static void leastBeginOfTheFirstSteps() {
        begins(Bench.with("tool a 1 1; step a 1; step a 2; step a 3;"), 6, 0, 1, 3);
        // STEP 0 waits as long as the least LENGTH asks for it, and no longer.
        begins(Bench.with("tool a 1 1; tool b 1 1; step a 1; step a 2; step b 5; after 1 2;"), 7, 2, 0, 2);
        begins(Bench.with("tool a 1 1; tool b 1 1; step a 1; step a 2; step b 5; step b 1; after 1 2;"), 7, 2, 0, 2, 0);
        // One turn more for others, and STEP 0 may go first.
        begins(Bench.with("tool a 1 1; tool b 1 1; tool c 1 1; step a 1; step a 2; step b 5; step c 8; after 1 2;"), 8, 0, 1, 3, 0);
    }

    /** "two STEPS of one TOOL, or of TOOLS that MEET, are not at work in one turn" */
    private static void neverAtWorkInOneTurn() {
        begins(Bench.with("tool a 1 1; tool b 1 1; step a 3; step b 3;"), 3, 0, 0);
        begins(Bench.with("tool a 1 1; tool b 1 1; step a 3; step b 3; meet b a;"), 6, 0, 3);
        begins(Bench.with("tool a 1 1; tool b 1 1; step a 3 2; step b 3; after 0 1;"), 8, 0, 5);
        begins(Bench.with("tool a 1 1; tool b 1 1; tool c 1 1; step a 1; step b 1; step c 1; meet a b; meet b c;"), 2, 0, 1, 0);
    }

    /** "HELD: a STEP whose end could not be later by one turn with this LENGTH, all other begins as they are" */
    private static void heldAtTheEnd() {
        helds(Bench.with("tool a 1 1; step a 5;"), 1);
        helds(Bench.with("tool a 1 1; tool b 1 1; step a 5; step b 4;"), 1, 0);
        helds(Bench.with("tool a 1 1; tool b 1 1; step a 5; step b 5;"), 1, 1);
    }

    private static void heldByTheSameTool() {
        helds(Bench.with("tool a 1 1; tool b 1 1; step a 1; step a 1; step b 3;"), 1, 0, 1);
        // STEP 2 waits for STEP 1 and leaves STEP 0 one turn.
        Bench turn = Bench.with("tool a 1 1; tool b 1 1; step a 1; step b 2; step a 1; after 1 2;");
        begins(turn, 3, 0, 0, 2);
        helds(turn, 0, 1, 1);
    }

    private static void heldByOneThatWaits() {
        String rest = " tool c 1 1; step c 9;";
        Bench waits = Bench.with("tool a 1 1; tool b 1 1; step a 2; step b 1; after 0 1;" + rest);
        begins(waits, 9, 0, 2, 0);
        helds(waits, 1, 0, 1);
        Bench late = Bench.with("tool a 1 1; tool b 1 1; tool c 1 1; step a 2; step b 3; step c 1; after 0 2; after 1 2;");
        begins(late, 4, 0, 0, 3);
        helds(late, 0, 1, 1);
        // STEP 2 begins just when STEP 0 ends, but waits for STEP 1 alone.
        Bench chance = Bench.with("tool a 1 1; tool b 1 1; tool d 1 1; step a 2; step b 2; step d 3; after 1 2;" + rest);
        begins(chance, 9, 0, 0, 2, 0);
        helds(chance, 0, 1, 0, 1);
    }

    private static void heldByAToolThatMeets() {
        Bench meets = Bench.with("tool a 1 1; tool b 1 1; tool c 1 1; step a 2; step b 2; step c 9; meet b a;");
        begins(meets, 9, 0, 2, 0);
        helds(meets, 1, 0, 1);
    }

    // ---- byRow

    private static void rowsOfNoSteps() {
        Bench bench = new Bench();
        is("empty row", bench.byRow(""), 0);
        is("a row of one", bench.byRow("0"), NONE);
        is("a blank", bench.byRow(" "), NONE);
        Bench tool = Bench.with("tool a 1 1;");
        is("empty row", tool.byRow(""), 0);
        is("a row of one", tool.byRow("0"), NONE);
    }

    /** "THE TAPE is a row of STEPS (a byte each: 48 and its number, each once) .. NONE: it is no such row" */
    private static void rowsThatAreNone() {
        Bench one = Bench.with("tool a 1 1; step a 3;");
        is("one", one.byRow("0"), 3);
        for (String row : new String[] {"", "00", "1", "/", " ", "\u0000", "\u00b0", "0 ", "0\n", " 0", "0;"}) is("row " + row, one.byRow(row), NONE);
        Bench seven = Bench.with("tool a 1 1;" + "step a 1;".repeat(7));
        is("seven", seven.byRow("0123456"), 7);
        is("backwards", seven.byRow("6543210"), 7);
        for (String row : new String[] {"", "012345", "01234566", "01234567", "0123455", "1234567", "012345/", "0123450",
            "6666666", "0123456 ", "0 1 2 3 4 5 6", "01234560123456"}) {
            is("row " + row, seven.byRow(row), NONE);
        }
        is("a row of 800", seven.byRow("0".repeat(800)), NONE);
        is("seven still", seven.byRow("3456012"), 7);
    }

    /** "NONE: .. one waits for one behind it" */
    private static void rowsAheadOfWhatTheyWaitFor() {
        Bench bench = Bench.with("tool a 1 1; tool b 1 1; tool c 1 1; step a 1; step b 2; step c 4; after 0 2;");
        for (String row : new String[] {"012", "021", "102"}) is("row " + row, bench.byRow(row), 5);
        for (String row : new String[] {"120", "201", "210"}) is("row " + row, bench.byRow(row), NONE);
    }

    /** "each begins as early as may be, .. those put in ahead kept" */
    private static void rowsIntoGaps() {
        String ahead = "tool a 1 1; tool b 1 1; step a 4; step b 3; after 0 1; step b ";
        is("a gap that is just long enough", Bench.with(ahead + "4;").byRow("012"), 7);
        is("a gap that is too short by one", Bench.with(ahead + "5;").byRow("012"), 12);
        is("those ahead are kept", Bench.with(ahead + "5;").byRow("021"), 8);
        // STEP 3 goes behind STEP 0 and ahead of STEP 2, which is put in already.
        String two = "tool a 1 1; tool b 1 1; step a 2; step b 4; step a 1; step a ";
        is("between two", Bench.with(two + "2; after 1 2;").byRow("0123"), 5);
        is("behind both", Bench.with(two + "3; after 1 2;").byRow("0123"), 8);
        String meet = "tool a 1 1; tool b 1 1; step a 4; step b 3; meet a b;";
        is("tools that meet", Bench.with(meet).byRow("10"), 7);
    }

    private static void rowsLeaveThePlan() {
        Bench bench = Bench.with("tool a 1 1; tool b 1 1; step a 1; step a 2; step b 5; after 1 2;");
        is("a longer row", bench.byRow("012"), 8);
        is("no row", bench.byRow("021"), NONE);
        begins(bench, 7, 2, 0, 2);
        helds(bench, 0, 1, 1);
    }

    // ---- marks and heights

    /** "turn t is at MARK t times (100 less idle) over LENGTH (cut ..)" */
    private static void idle0And40() {
        String step = "tool a 1 60; step a 50 50;";
        Bench none = Bench.with(step + "idle 0;");
        lobes(none, 0, 0, 50, 100);
        heights(none, 0, 0, 0, 1, 1, 49, 49, 50, 50, 98, 50, 99, 50);
        Bench most = Bench.with(step + "idle 40;");
        lobes(most, 0, 0, 30, 60);
        heights(most, 0, 0, 0, 1, 1, 29, 48, 30, 50, 60, 50, 61, 0, 99, 0);
        Bench usual = Bench.with(step);
        lobes(usual, 0, 0, 45, 90);
        heights(usual, 0, 44, 48, 45, 50, 90, 50, 91, 0, 99, 0);
        Bench one = Bench.with(step + "idle 1;");
        lobes(one, 0, 0, 49, 99);
        heights(one, 0, 48, 48, 49, 50, 99, 50);
    }

    /** "to the MARK C of the turn in which its DWELL begins (its end without one)" */
    private static void stepWithoutDwell() {
        for (String dwell : new String[] {"", " 0"}) {
            Bench bench = Bench.with("tool a 1 7; step a 90" + dwell + ";");
            lobes(bench, 0, 0, 90, 90);
            heights(bench, 0, 0, 0, 1, 1, 89, 89, 90, 90, 91, 83, 99, 27);
        }
        // 91 turns: C is at 89, and from there on it stays up.
        Bench one = Bench.with("tool a 1 7; step a 90 1;");
        lobes(one, 0, 0, 89, 90);
        heights(one, 0, 88, 88, 89, 90, 90, 90, 91, 83, 99, 27);
    }

    /** "then it falls by SLOPE for each MARK behind B, to 0, round beyond 99 if need be" */
    private static void fallBeyondMark99() {
        Bench round = Bench.with("tool a 1 1; tool b 1 3; step a 10; step b 10; after 0 1; idle 0;");
        lobes(round, 1, 50, 100, 100);
        heights(round, 1, 98, 9, 99, 9, 0, 10, 1, 7, 2, 4, 3, 1, 4, 0, 5, 0, 49, 0, 50, 0, 54, 0, 55, 1);
        // B at 95 and 4 MARKS more ahead of MARK 99.
        Bench late = Bench.with("tool a 1 1; tool b 1 3; step a 10; step b 17; after 0 1; idle 5;");
        lobes(late, 1, 35, 95, 95);
        heights(late, 1, 95, 17, 96, 14, 99, 5, 0, 2, 1, 0, 2, 0);
        // A fall that comes to 0 just at a MARK.
        Bench even = Bench.with("tool a 1 1; tool b 1 5; step a 10; step b 10; after 0 1; idle 1;");
        heights(even, 1, 99, 10, 0, 5, 1, 0, 2, 0);
    }

    /** "for less than 100 MARKS from A on in all" */
    private static void fallStopsAtItsOwnBegin() {
        Bench first = Bench.with("tool a 1 1; step a 400; idle 40;");
        heights(first, 0, 60, 400, 61, 399, 99, 361, 0, 0, 1, 6);
        Bench second = Bench.with("tool a 1 1; tool b 1 1; step b 200; step a 200; after 0 1; idle 0;");
        lobes(second, 1, 50, 100, 100);
        heights(second, 0, 99, 196, 0, 200, 1, 199, 48, 152, 49, 151, 50, 0, 51, 4);
    }

    private static void markCAtA() {
        // 20000 turns on 100 MARKS: the STEP of 20 turns has none to rise in.
        Bench point = Bench.with("tool a 1 9; tool b 50 1; step a 20; step b 400; idle 0;");
        lobes(point, 0, 0, 0, 0);
        heights(point, 0, 0, 20, 1, 11, 2, 2, 3, 0, 99, 0);
        is("steep", point.shop.lobe(0, 3), 1);
        is("slope", point.shop.slope(0), NONE);
        // 2000 turns: C at A, but five MARKS of dwell.
        Bench stay = Bench.with("tool a 1 9; tool b 5 1; step a 10 99; step b 400; idle 0;");
        lobes(stay, 0, 0, 0, 5);
        heights(stay, 0, 0, 10, 1, 10, 5, 10, 6, 1, 7, 0, 99, 0);
        // C just one MARK behind A: at A it is still down.
        Bench one = Bench.with("tool a 1 9; tool b 5 1; step a 20; step b 400; idle 0;");
        lobes(one, 0, 0, 1, 1);
        heights(one, 0, 0, 0, 1, 20, 2, 11, 3, 2, 4, 0);
        is("steep", one.shop.lobe(0, 3), 1);
        is("slope", one.shop.slope(0), 20);
    }

    /** "HEIGHT of a DISC: the greatest of its STEPS' (0 without)" */
    private static void greatestOfItsSteps() {
        Bench bench = Bench.with("tool a 1 1; tool b 1 1; step a 30; step a 30; idle 40;");
        // One MARK a turn: STEP 0 falls from 30 on while STEP 1 rises.
        lobes(bench, 0, 0, 30, 30);
        lobes(bench, 1, 30, 60, 60);
        heights(bench, 0, 30, 30, 31, 29, 44, 16, 45, 15, 46, 16, 59, 29, 60, 30, 61, 29, 90, 0, 91, 0);
        for (int m = 0; m < 100; m++) is("a tool without steps", bench.shop.height(1, m), 0);
    }

    private static void marksOfHeight() {
        Bench bench = Bench.with("tool a 1 1; tool b 1 1; step a 30; idle 0;");
        heights(bench, 0, -1, RANGE, 0, 0, 99, 29, 100, RANGE, Integer.MIN_VALUE, RANGE, Integer.MAX_VALUE, RANGE);
        heights(bench, 1, -1, RANGE, 0, 0, 99, 0, 100, RANGE);
        for (int m = -1; m <= 100; m++) {
            is("no such tool", bench.shop.height(-1, m), RANGE);
            is("no such tool", bench.shop.height(2, m), RANGE);
        }
        is("no such tool", bench.shop.height(Integer.MIN_VALUE, 0), RANGE);
        is("no such tool", bench.shop.height(Integer.MAX_VALUE, 0), RANGE);
    }

    private static void numbersOfLobe() {
        Bench bench = Bench.with("tool a 1 1; step a 30; step a 40; idle 30;");
        // STEP 1 is down again 40 MARKS behind 70: it is still up by 10 at MARK 0, so that STEP 0 is LATE.
        int[][] due = {{RANGE, 0, 30, 30, 0, 1, RANGE}, {RANGE, 30, 70, 70, 0, 1, RANGE}};
        for (int k = 0; k < 2; k++) {
            for (int what = -1; what <= 5; what++) is("lobe " + k + " " + what, bench.shop.lobe(k, what), due[k][what + 1]);
            is("lobe", bench.shop.lobe(k, Integer.MIN_VALUE), RANGE);
            is("lobe", bench.shop.lobe(k, Integer.MAX_VALUE), RANGE);
        }
    }

    // ---- steep and late

    /** "STEEP: a STEP with RISE above SLOPE times (C less A)" */
    private static void justSteep() {
        is("just not", Bench.with("tool a 1 1; step a 60; idle 40;").shop.lobe(0, 3), 0);
        is("just so", Bench.with("tool a 1 1; step a 61; idle 40;").shop.lobe(0, 3), 1);
        is("just not", Bench.with("tool a 1 4; step a 400; idle 0;").shop.lobe(0, 3), 0);
        is("just so", Bench.with("tool a 1 4; step a 400; idle 1;").shop.lobe(0, 3), 1);
        // A DWELL takes MARKS from the rise.
        is("just not", Bench.with("tool a 1 2; step a 50 50; idle 40;").shop.lobe(0, 3), 0);
        is("just so", Bench.with("tool a 1 2; step a 50 99; idle 40;").shop.lobe(0, 3), 1);
    }

    /** "LATE: a STEP at whose MARK A another STEP of the same TOOL has a HEIGHT above 0" */
    private static void justLate() {
        // One MARK a turn, 90 in all. STEP 0 is down at MARK 60, and at 1 at MARK 59; STEP 2 is at 20 at MARK 0.
        Bench down = Bench.with("tool a 1 1; tool b 1 1; step a 30; step b 30; step a 30;" + ROW);
        is("down in time", down.shop.lobe(2, 4), 0);
        is("late at mark 0", down.shop.lobe(0, 4), 1);
        is("late", down.shop.wrong(1), 1);
        Bench up = Bench.with("tool a 1 1; tool b 1 1; step a 30; step b 29; step a 30 1;" + ROW);
        is("up by 1", up.shop.lobe(2, 4), 1);
        is("late", up.shop.wrong(1), 5);
        Bench quick = Bench.with("tool a 1 10; tool b 1 1; step a 30; step b 30; step a 30;" + ROW);
        is("none is late", quick.shop.wrong(1), 0);
    }

    private static void lateBehindMark99() {
        String steps = "tool a 1 60; tool b 1 1; step a 40; step b 20; step a 40;" + ROW;
        // B at 100 is MARK 0 of the next round.
        is("at the end of the round", Bench.with(steps + "idle 0;").shop.wrong(1), 1);
        is("down at mark 0", Bench.with(steps + "idle 1;").shop.wrong(1), 0);
    }

    private static void lateByItsOwnToolAlone() {
        Bench others = Bench.with("tool a 1 1; tool b 1 1; step a 50; step b 50; after 0 1;");
        is("of other tools", others.shop.wrong(1), 0);
        Bench alone = Bench.with("tool a 1 1; step a 400; idle 0;");
        is("by itself", alone.shop.lobe(0, 4), 0);
        // Two STEPS with the same MARK A: the first has no MARK to rise in, the second rises from 0.
        Bench same = Bench.with("tool a 1 60; tool b 50 1; step a 20; step a 400; step b 400; idle 0;");
        lobes(same, 0, 0, 0, 0);
        lobes(same, 1, 0, 2, 2);
        is("the second is late alone", same.shop.wrong(1), 2);
    }

    private static void numbersOfWrong() {
        Bench bench = Bench.with("tool a 1 1; step a 400; step a 400; idle 40;");
        is("steep", bench.shop.wrong(0), 3);
        is("late", bench.shop.wrong(1), 3);
        for (int what : new int[] {-1, 2, Integer.MIN_VALUE, Integer.MAX_VALUE}) is("wrong " + what, bench.shop.wrong(what), NONE);
        Bench seven = Bench.with("tool a 1 1;" + "step a 100;".repeat(7));
        is("all seven steep", seven.shop.wrong(0), 127);
    }

    /** "The least SLOPE that a TOOL must have so that none of its STEPS is STEEP" */
    private static void leastSlope() {
        is("just 1", Bench.with("tool a 1 9; step a 60; idle 40;").shop.slope(0), 1);
        is("one more", Bench.with("tool a 1 9; step a 61; idle 40;").shop.slope(0), 2);
        is("just 2", Bench.with("tool a 1 9; step a 120; idle 40;").shop.slope(0), 2);
        Bench bench = Bench.with("tool a 1 1; tool b 1 1; tool c 1 1; step a 30; step b 100; step b 20 10; idle 40;");
        // 130 turns on 60 MARKS: a rises to 13, b to 46 and from there to 55.
        lobes(bench, 0, 0, 13, 13);
        lobes(bench, 1, 0, 46, 46);
        lobes(bench, 2, 46, 55, 60);
        int[] due = {RANGE, 3, 3, 1, RANGE};
        for (int t = -1; t <= 3; t++) is("slope " + t, bench.shop.slope(t), due[t + 1]);
        is("slope", bench.shop.slope(Integer.MIN_VALUE), RANGE);
        is("slope", bench.shop.slope(Integer.MAX_VALUE), RANGE);
    }

    /** "NONE: none up to 60" */
    private static void slopeOf60AndBeyond() {
        // 5000 turns on 90 MARKS: C of both is at 1.
        String ahead = "tool a 1 60; tool b 50 1; step b 100; step a ";
        Bench sixty = Bench.with(ahead + "60;");
        lobes(sixty, 1, 0, 1, 1);
        is("sixty", sixty.shop.slope(0), 60);
        is("sixty is not steep", sixty.shop.lobe(1, 3), 0);
        Bench beyond = Bench.with(ahead + "61;");
        lobes(beyond, 1, 0, 1, 1);
        is("beyond sixty", beyond.shop.slope(0), NONE);
        is("steep", beyond.shop.lobe(1, 3), 1);
        // 55 turns are no MARK at all, nor are those from 60 to 100; one STEP that is too steep is enough.
        is("no mark", Bench.with(ahead + "55;").shop.slope(0), NONE);
        is("one of two", Bench.with(ahead + "60; step a 40;").shop.slope(0), NONE);
        is("none of two", Bench.with(ahead + "60; step a 55;").shop.slope(0), 60);
    }
}
