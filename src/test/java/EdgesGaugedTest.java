/** Terms IV with promises 27 to 37: each boundary that they name and what stands next to it, a method a sentence. */
public final class EdgesGaugedTest {
    private static final int NONE = -1;
    private static final int RANGE = -2;
    private static final int FULL = -3;
    private static final int NO_CAUSE = -9;
    private static final int NO_TELLING = -9999;
    private static final int[] FAR = {Integer.MIN_VALUE, -1001, 1001, Integer.MAX_VALUE};

    /** One TOOL, one STEP: 5 HEATS, 61 ways to be WORN, 5 to be DULL. */
    private static final String ONE = "tool a 1 1; step a 1;";
    private static final int ALL = 1525;
    private static final int A_HEAT = 305;
    private static final String MOST = "tool a 1 1;tool b 1 1;tool c 1 1;tool d 1 1;tool e 1 1;tool f 1 1;" + "step f 1;".repeat(7);

    public static void main(String[] args) {
        stagesOfGauge();
        stagesNeverFall();
        partsOfGauge();
        stepsOfGauge();
        offsOfGauge();
        sixteenthAndSeventeenth();
        numbersOfRight();
        twentiethAndTwentyFirst();
        howOftenItWas();
        numbersOfFit();
        knownAtEarlierStages();
        knownAtTheFirstAndLastStage();
        putRightAtTheSameStage();
        gaugedAtAStageAskedFor();
        noneFit();
        noneFitTillPutRight();
        oneFits();
        causesMinus1ToOneMore();
        causesAtEachSeam();
        causesWithoutToolsOrSteps();
        causesOfTheMost();
        tellsAtTheEdges();
        tellsCutTowards0();
        wornFromItsPartOn();
        surelyOfNumbers();
        surelyByAllSomeNone();
        surelyDullByAnyGrade();
        nextWithoutParting();
        nextOfParts0To19();
        nextLeastOfAlikeOnes();
        limitsOfHalt();
        haltAtTheFirstAndTheLastPart();
        haltBelow();
        haltByEarlierWear();
        haltByADullStep();
        limitsOfBin();
        binsJustAtTheLimit();
        binByTheLeastCause();
        numbersOfCount();
        Bench.closeTest("EdgesGaugedTest");
    }

    private static void is(String what, long got, long want) {
        Bench.is(what, got, want);
    }

    private static void causeIs(Bench bench, int n, int... due) {
        for (int what = 0; what < 6; what++) is("cause " + n + " " + what, bench.shop.cause(n, what), due[what]);
    }

    /** HEAT -2 and worn by 1 from part 10 on alone: -3 at 9, -3 at 10, -14 at 39. Its number is 5 + 10 * 25. */
    private static Bench oneLeft() {
        Bench bench = Bench.with(ONE);
        is("gauge", bench.shop.gauge(0, 9, 0, -3), 0);
        is("gauge", bench.shop.gauge(0, 10, 0, -3), 1);
        is("gauge", bench.shop.gauge(0, 39, 0, -14), 2);
        return bench;
    }

    /** Off by 3 as known at 5, by 2 at 7, by 6, which no CAUSE tells of part 0, at 9. */
    private static Bench changing() {
        Bench bench = Bench.with(ONE);
        is("gauge", bench.shop.gauge(5, 0, 0, 3), 0);
        is("right", bench.shop.right(7, 0, 2), 1);
        is("right", bench.shop.right(9, 0, 6), 2);
        return bench;
    }

    // ---- promises 27 and 28

    /** "told at a STAGE of telling (0 .. 999, never falling)" */
    private static void stagesOfGauge() {
        Bench bench = Bench.with(ONE);
        is("stage -1", bench.shop.gauge(-1, 0, 0, 0), RANGE);
        is("stage 1000", bench.shop.gauge(1000, 0, 0, 0), RANGE);
        for (int far : FAR) is("stage " + far, bench.shop.gauge(far, 0, 0, 0), RANGE);
        is("stage 0", bench.shop.gauge(0, 0, 0, 0), 0);
        is("right at -1", bench.shop.right(-1, 0, 0), RANGE);
        is("right at 1000", bench.shop.right(1000, 0, 0), RANGE);
        for (int far : FAR) is("right at " + far, bench.shop.right(far, 0, 0), RANGE);
        is("right at 0", bench.shop.right(0, 0, 0), 1);
        is("stage 999", bench.shop.gauge(999, 0, 0, 0), 1);
        is("right at 999", bench.shop.right(999, 0, 0), 2);
        is("stage 999", bench.shop.gauge(999, 0, 0, 0), 2);
        is("stage 998", bench.shop.gauge(998, 0, 0, 0), RANGE);
        is("stage 1000", bench.shop.gauge(1000, 0, 0, 0), RANGE);
        is("right at 998", bench.shop.right(998, 0, 0), RANGE);
        is("right at 1000", bench.shop.right(1000, 0, 0), RANGE);
    }

    private static void stagesNeverFall() {
        Bench bench = Bench.with(ONE);
        is("gauge", bench.shop.gauge(5, 0, 0, 0), 0);
        is("one below", bench.shop.gauge(4, 0, 0, 0), RANGE);
        is("right one below", bench.shop.right(4, 0, 0), RANGE);
        is("the same", bench.shop.gauge(5, 0, 0, 0), 1);
        is("right at the same", bench.shop.right(5, 0, 0), 1);
        is("right at a later one", bench.shop.right(8, 1, 0), 1);
        is("gauge below that", bench.shop.gauge(7, 0, 0, 0), RANGE);
        is("right below that", bench.shop.right(7, 0, 0), RANGE);
        is("gauge at that", bench.shop.gauge(8, 0, 0, 0), 2);
        // What is refused is not told: it makes no STAGE the latest.
        is("refused", bench.shop.gauge(500, 40, 0, 0), RANGE);
        is("refused", bench.shop.gauge(500, 0, 0, 100), RANGE);
        is("refused", bench.shop.right(500, 3, 0), RANGE);
        is("refused", bench.shop.right(500, 0, -100), RANGE);
        is("asked", bench.shop.fit(700, 0), bench.shop.fit(8, 0));
        is("still at that", bench.shop.gauge(8, 0, 0, 0), 3);
        is("right still at that", bench.shop.right(8, 3, 0), 1);
    }

    /** "STEP s of part i (0 .. 39)" */
    private static void partsOfGauge() {
        Bench bench = Bench.with(ONE);
        is("part -1", bench.shop.gauge(0, -1, 0, 0), RANGE);
        is("part 40", bench.shop.gauge(0, 40, 0, 0), RANGE);
        for (int far : FAR) is("part " + far, bench.shop.gauge(0, far, 0, 0), RANGE);
        is("none", bench.shop.count(1), 0);
        is("part 0", bench.shop.gauge(0, 0, 0, 0), 0);
        is("part 39", bench.shop.gauge(0, 39, 0, 0), 1);
        is("the same part again", bench.shop.gauge(0, 39, 0, 0), 2);
    }

    private static void stepsOfGauge() {
        is("no steps", Bench.with("tool a 1 1;").shop.gauge(0, 0, 0, 0), RANGE);
        Bench bench = Bench.with(ONE + "step a 1;");
        is("step -1", bench.shop.gauge(0, 0, -1, 0), RANGE);
        is("step 2", bench.shop.gauge(0, 0, 2, 0), RANGE);
        for (int far : FAR) is("step " + far, bench.shop.gauge(0, 0, far, 0), RANGE);
        is("none", bench.shop.count(1), 0);
        is("step 0", bench.shop.gauge(0, 0, 0, 0), 0);
        is("step 1", bench.shop.gauge(0, 0, 1, 0), 1);
        Bench seven = Bench.with(MOST);
        is("step 6", seven.shop.gauge(0, 0, 6, 0), 0);
        is("step 7", seven.shop.gauge(0, 0, 7, 0), RANGE);
    }

    /** "is off (-99 .. 99)" */
    private static void offsOfGauge() {
        Bench bench = Bench.with(ONE);
        is("off -100", bench.shop.gauge(0, 0, 0, -100), RANGE);
        is("off 100", bench.shop.gauge(0, 0, 0, 100), RANGE);
        for (int far : FAR) is("off " + far, bench.shop.gauge(0, 0, 0, far), RANGE);
        is("none", bench.shop.count(1), 0);
        is("off -99", bench.shop.gauge(0, 0, 0, -99), 0);
        is("off 99", bench.shop.gauge(0, 0, 0, 99), 1);
        is("right -100", bench.shop.right(0, 0, -100), RANGE);
        is("right 100", bench.shop.right(0, 0, 100), RANGE);
        for (int far : FAR) is("right " + far, bench.shop.right(0, 0, far), RANGE);
        is("no right", bench.shop.count(2), 0);
        is("right -99", bench.shop.right(0, 0, -99), 1);
        is("right 99", bench.shop.right(0, 1, 99), 1);
        is("none fit", bench.shop.fit(0, 0), 0);
    }

    /** "its number; .. FULL: 16 were." */
    private static void sixteenthAndSeventeenth() {
        Bench bench = Bench.with(ONE);
        for (int n = 0; n < 16; n++) is("gauge " + n, bench.shop.gauge(n, n, 0, 0), n);
        is("the 17th", bench.shop.gauge(15, 0, 0, 5), FULL);
        is("the 17th", bench.shop.gauge(999, 0, 0, 5), FULL);
        is("count", bench.shop.count(1), 16);
        is("what can't be", bench.shop.gauge(14, 0, 0, 5), RANGE);
        is("what can't be", bench.shop.gauge(15, 40, 0, 5), RANGE);
        is("what can't be", bench.shop.gauge(15, 0, 1, 5), RANGE);
        is("what can't be", bench.shop.gauge(15, 0, 0, 100), RANGE);
        is("nothing of it is known", bench.shop.fit(999, 0), bench.shop.fit(15, 0));
        is("all even", bench.shop.fit(999, 1), 2);
        is("the stage stays", bench.shop.right(15, 15, 0), 1);
        is("the last one", bench.shop.right(15, 15, 0), 2);
        is("no 17th", bench.shop.right(15, 16, 0), RANGE);
    }

    /** "One that was GAUGED is put RIGHT at a STAGE: .. RANGE" */
    private static void numbersOfRight() {
        Bench bench = Bench.with(ONE);
        is("none was", bench.shop.right(0, 0, 0), RANGE);
        is("gauge", bench.shop.gauge(0, 0, 0, 1), 0);
        is("gauge", bench.shop.gauge(0, 1, 0, 1), 1);
        is("below", bench.shop.right(0, -1, 0), RANGE);
        is("beyond", bench.shop.right(0, 2, 0), RANGE);
        for (int far : FAR) is("far", bench.shop.right(0, far, 0), RANGE);
        is("count", bench.shop.count(2), 0);
        is("first", bench.shop.right(0, 0, 0), 1);
        is("last", bench.shop.right(0, 1, 0), 1);
        is("count", bench.shop.count(2), 2);
    }

    /** "FULL: the 21st in all." */
    private static void twentiethAndTwentyFirst() {
        Bench bench = Bench.with(ONE);
        is("gauge", bench.shop.gauge(0, 0, 0, 1), 0);
        is("gauge", bench.shop.gauge(0, 0, 0, 1), 1);
        for (int n = 1; n <= 10; n++) {
            is("right", bench.shop.right(n, 0, 0), n);
            is("right", bench.shop.right(n, 1, 0), n);
        }
        is("count", bench.shop.count(2), 20);
        int known = bench.shop.fit(999, 0);
        is("the 21st", bench.shop.right(10, 0, 1), FULL);
        is("the 21st", bench.shop.right(999, 1, 1), FULL);
        is("what can't be", bench.shop.right(9, 0, 1), RANGE);
        is("what can't be", bench.shop.right(10, 2, 1), RANGE);
        is("what can't be", bench.shop.right(10, 0, 100), RANGE);
        is("count", bench.shop.count(2), 20);
        is("nothing of it is known", bench.shop.fit(999, 0), known);
        is("the stage stays, and there is room to gauge", bench.shop.gauge(10, 0, 0, 0), 2);
    }

    /** "how often it was" */
    private static void howOftenItWas() {
        Bench bench = Bench.with(ONE);
        for (int k = 0; k < 3; k++) is("gauge", bench.shop.gauge(0, k, 0, 0), k);
        is("first", bench.shop.right(1, 0, 1), 1);
        is("another", bench.shop.right(1, 2, 1), 1);
        is("first again", bench.shop.right(1, 0, 1), 2);
        is("first, as it was", bench.shop.right(2, 0, 1), 3);
        is("another again", bench.shop.right(2, 2, 1), 2);
        is("the last of them", bench.shop.right(2, 1, 1), 1);
        is("in all", bench.shop.count(2), 6);
    }

    // ---- promise 29

    private static void numbersOfFit() {
        Bench bench = Bench.with(ONE);
        int[] due = {RANGE, ALL, 0, RANGE};
        for (int what = -1; what <= 2; what++) {
            is("fit 0 " + what, bench.shop.fit(0, what), due[what + 1]);
            is("fit 999 " + what, bench.shop.fit(999, what), due[what + 1]);
            is("fit -1 " + what, bench.shop.fit(-1, what), RANGE);
            is("fit 1000 " + what, bench.shop.fit(1000, what), RANGE);
        }
        for (int far : FAR) {
            is("fit", bench.shop.fit(far, 0), RANGE);
            is("fit", bench.shop.fit(0, far), RANGE);
        }
    }

    /** "FIT as known at a STAGE: the CAUSES that tell all that is GAUGED as known then" */
    private static void knownAtEarlierStages() {
        Bench bench = changing();
        int[] many = {ALL, ALL, ALL, ALL, ALL, 25, 25, 25, 25, 0, 0};
        int[] least = {0, 0, 0, 0, 0, 15, 15, 10, 10, NONE, NONE};
        int[] worn = {2, 2, 2, 2, 2, 1, 1, 1, 1, NONE, NONE};
        int[] dull = {2, 2, 2, 2, 2, 2, 2, 2, 2, NONE, NONE};
        // Of some CAUSE part 0 is off by 5, then by 3, then by 2; with a DULL STEP by 4 part 2 is off by 1 more.
        int[] halt = {0, 0, 0, 0, 0, 0, 0, 2, 2, NONE, NONE};
        int[] bin = {0, 0, 0, 0, 0, 1, 1, 0, 0, NONE, NONE};
        for (int known = 10; known >= 0; known--) {
            is("fit at " + known, bench.shop.fit(known, 0), many[known]);
            is("least at " + known, bench.shop.fit(known, 1), least[known]);
            is("worn at " + known, bench.shop.surelyWorn(0, known), worn[known]);
            is("dull at " + known, bench.shop.surelyDull(0, known), dull[known]);
            is("halt at " + known, bench.shop.halt(2, known), halt[known]);
            is("bin at " + known, bench.shop.bin(0, 2, known), bin[known]);
        }
        is("next by all that is known", bench.shop.next(), NONE);
        is("fit at 4 behind next", bench.shop.fit(4, 0), ALL);
        is("one below the latest", bench.shop.gauge(8, 0, 0, 2), RANGE);
        is("another", bench.shop.gauge(9, 5, 0, 2), 1);
        is("as it was known at 8", bench.shop.fit(8, 0), 25);
    }

    private static void knownAtTheFirstAndLastStage() {
        Bench bench = Bench.with(ONE);
        is("at 0", bench.shop.gauge(0, 0, 0, 1), 0);
        is("at 999", bench.shop.right(999, 0, 2), 1);
        is("fit at 0", bench.shop.fit(0, 1), 5);
        is("fit at 998", bench.shop.fit(998, 1), 5);
        is("fit at 999", bench.shop.fit(999, 1), 10);
        // All that is known is what is known at 999.
        is("right at 999", bench.shop.right(999, 0, 6), 2);
        is("next", bench.shop.next(), NONE);
        is("fit at 998", bench.shop.fit(998, 0), 25);
        is("fit at 999", bench.shop.fit(999, 0), 0);
    }

    private static void putRightAtTheSameStage() {
        Bench bench = Bench.with(ONE);
        is("gauge", bench.shop.gauge(4, 0, 0, 1), 0);
        is("fit", bench.shop.fit(4, 1), 5);
        is("right", bench.shop.right(4, 0, 2), 1);
        is("fit", bench.shop.fit(4, 1), 10);
        is("right", bench.shop.right(4, 0, 4), 2);
        is("fit", bench.shop.fit(4, 1), 20);
        is("right", bench.shop.right(4, 0, 3), 3);
        is("the latest counts", bench.shop.fit(4, 1), 15);
        is("ahead of it", bench.shop.fit(3, 0), ALL);
    }

    private static void gaugedAtAStageAskedFor() {
        Bench bench = Bench.with(ONE);
        is("all", bench.shop.fit(4, 0), ALL);
        is("gauge", bench.shop.gauge(4, 0, 0, 1), 0);
        is("fewer", bench.shop.fit(4, 0), 25);
        is("gauge", bench.shop.gauge(4, 39, 0, -14), 1);
        // HEAT -2 and worn by 1 alone.
        is("one", bench.shop.fit(4, 0), 1);
        is("the latest stage", bench.shop.fit(999, 0), 1);
        is("gauge", bench.shop.gauge(999, 39, 0, -13), 2);
        is("none", bench.shop.fit(999, 0), 0);
        is("one still", bench.shop.fit(998, 0), 1);
        is("next", bench.shop.next(), NONE);
        is("another part", bench.part(ONE), 2);
        is("all", bench.shop.fit(999, 0), ALL);
    }

    private static void noneFit() {
        for (int off : new int[] {-99, -1, 6, 99}) {
            Bench bench = Bench.with(ONE);
            is("gauge", bench.shop.gauge(1, 0, 0, off), 0);
            is("fit", bench.shop.fit(1, 0), 0);
            is("least", bench.shop.fit(1, 1), NONE);
            is("worn", bench.shop.surelyWorn(0, 1), NONE);
            is("dull", bench.shop.surelyDull(0, 1), NONE);
            is("next", bench.shop.next(), NONE);
            is("halt", bench.shop.halt(0, 1), NONE);
            is("bin", bench.shop.bin(0, 0, 1), NONE);
            // What can't be goes ahead.
            is("worn", bench.shop.surelyWorn(1, 1), RANGE);
            is("dull", bench.shop.surelyDull(-1, 1), RANGE);
            is("halt", bench.shop.halt(100, 1), RANGE);
            is("bin", bench.shop.bin(40, 0, 1), RANGE);
            is("bin", bench.shop.bin(0, 100, 1), RANGE);
            is("causes stay", bench.shop.count(4), ALL);
        }
        Bench apart = Bench.with(ONE);
        is("gauge", apart.shop.gauge(0, 0, 0, 1), 0);
        is("gauge", apart.shop.gauge(0, 0, 0, 2), 1);
        is("two that can't both be", apart.shop.fit(0, 0), 0);
    }

    private static void noneFitTillPutRight() {
        Bench bench = Bench.with(ONE);
        is("gauge", bench.shop.gauge(1, 0, 0, 6), 0);
        is("none", bench.shop.fit(1, 0), 0);
        is("right", bench.shop.right(2, 0, 5), 1);
        is("some", bench.shop.fit(2, 0), 25);
        is("as it was", bench.shop.fit(1, 0), 0);
        is("worn", bench.shop.surelyWorn(0, 1), NONE);
        is("worn", bench.shop.surelyWorn(0, 2), 1);
    }

    private static void oneFits() {
        Bench bench = oneLeft();
        is("one", bench.shop.fit(0, 0), 1);
        is("which", bench.shop.fit(0, 1), 255);
        causeIs(bench, 255, -2, 0, 10, 1, NONE, 0);
        is("worn", bench.shop.surelyWorn(0, 0), 1);
        is("dull", bench.shop.surelyDull(0, 0), 0);
        is("next", bench.shop.next(), NONE);
        is("halt", bench.shop.halt(0, 0), 3);
        is("bin", bench.shop.bin(39, 13, 0), 2);
        is("bin", bench.shop.bin(39, 14, 0), 0);
    }

    // ---- promises 30 and 31

    private static void causesMinus1ToOneMore() {
        Bench bench = Bench.with(ONE);
        causeIs(bench, 0, -2, NONE, 0, 0, NONE, 0);
        causeIs(bench, ALL - 1, 2, 0, 11, 5, 0, 4);
        for (int what = -1; what <= 6; what++) {
            is("cause -1 " + what, bench.shop.cause(-1, what), NO_CAUSE);
            is("cause " + ALL + " " + what, bench.shop.cause(ALL, what), NO_CAUSE);
            for (int far : new int[] {Integer.MIN_VALUE, Integer.MAX_VALUE, 99999}) is("cause", bench.shop.cause(far, what), NO_CAUSE);
        }
        for (int n : new int[] {0, ALL - 1}) {
            for (int what : new int[] {-1, 6, Integer.MIN_VALUE, Integer.MAX_VALUE}) is("what", bench.shop.cause(n, what), NO_CAUSE);
            is("tells", bench.shop.tells(n, 0, 0), 0);
        }
        is("tells -1", bench.shop.tells(-1, 0, 0), NO_TELLING);
        is("tells one more", bench.shop.tells(ALL, 0, 0), NO_TELLING);
    }

    /** "HEAT first (-2 first), in it WORN (none first, then by TOOL, f, w), in it DULL (none first, then by STEP, g)" */
    private static void causesAtEachSeam() {
        Bench one = Bench.with(ONE);
        causeIs(one, 1, -2, NONE, 0, 0, 0, 1);
        causeIs(one, 4, -2, NONE, 0, 0, 0, 4);
        causeIs(one, 5, -2, 0, 0, 1, NONE, 0);
        causeIs(one, 9, -2, 0, 0, 1, 0, 4);
        causeIs(one, 10, -2, 0, 0, 2, NONE, 0);
        causeIs(one, 29, -2, 0, 0, 5, 0, 4);
        causeIs(one, 30, -2, 0, 1, 1, NONE, 0);
        causeIs(one, A_HEAT - 1, -2, 0, 11, 5, 0, 4);
        causeIs(one, A_HEAT, -1, NONE, 0, 0, NONE, 0);
        causeIs(one, 2 * A_HEAT, 0, NONE, 0, 0, NONE, 0);
        causeIs(one, 4 * A_HEAT - 1, 1, 0, 11, 5, 0, 4);
        causeIs(one, 4 * A_HEAT, 2, NONE, 0, 0, NONE, 0);
        // Two TOOLS and two STEPS: 121 ways to be WORN, 9 to be DULL.
        Bench two = Bench.with("tool a 1 1; tool b 1 1; step b 1; step a 1;");
        is("causes", two.shop.count(4), 5 * 121 * 9);
        causeIs(two, 4, -2, NONE, 0, 0, 0, 4);
        causeIs(two, 5, -2, NONE, 0, 0, 1, 1);
        causeIs(two, 8, -2, NONE, 0, 0, 1, 4);
        causeIs(two, 9, -2, 0, 0, 1, NONE, 0);
        causeIs(two, 61 * 9 - 1, -2, 0, 11, 5, 1, 4);
        causeIs(two, 61 * 9, -2, 1, 0, 1, NONE, 0);
        causeIs(two, 121 * 9 - 1, -2, 1, 11, 5, 1, 4);
        causeIs(two, 121 * 9, -1, NONE, 0, 0, NONE, 0);
    }

    private static void causesWithoutToolsOrSteps() {
        Bench none = new Bench();
        is("causes", none.shop.count(4), 5);
        for (int n = 0; n < 5; n++) causeIs(none, n, n - 2, NONE, 0, 0, NONE, 0);
        is("one more", none.shop.cause(5, 0), NO_CAUSE);
        is("no step to tell of", none.shop.tells(0, 0, 0), NO_TELLING);
        Bench tool = Bench.with("tool a 1 1;");
        is("causes", tool.shop.count(4), A_HEAT);
        causeIs(tool, 60, -2, 0, 11, 5, NONE, 0);
        causeIs(tool, 61, -1, NONE, 0, 0, NONE, 0);
        causeIs(tool, A_HEAT - 1, 2, 0, 11, 5, NONE, 0);
        is("one more", tool.shop.cause(A_HEAT, 0), NO_CAUSE);
        is("no step to tell of", tool.shop.tells(0, 0, 0), NO_TELLING);
        is("all fit", tool.shop.fit(0, 0), A_HEAT);
        is("nothing to gauge", tool.shop.next(), NONE);
    }

    private static void causesOfTheMost() {
        Bench bench = Bench.with(MOST);
        is("causes", bench.shop.count(4), 52345);
        is("all fit", bench.shop.fit(999, 0), 52345);
        causeIs(bench, 52344, 2, 5, 11, 5, 6, 4);
        is("one more", bench.shop.cause(52345, 0), NO_CAUSE);
        is("tells the most", bench.shop.tells(52344, 39, 6), 51);
        is("not of a step that is sharp", bench.shop.tells(52344, 39, 5), 20);
        is("one more", bench.shop.tells(52345, 39, 6), NO_TELLING);
    }

    private static void tellsAtTheEdges() {
        Bench bench = Bench.with(ONE + "step a 1;");
        for (int i : new int[] {-1, 0, 39, 40, Integer.MIN_VALUE, Integer.MAX_VALUE}) {
            for (int s : new int[] {-1, 0, 1, 2, Integer.MIN_VALUE, Integer.MAX_VALUE}) {
                boolean isThere = (i == 0 || i == 39) && (s == 0 || s == 1);
                is("tells " + i + " " + s, bench.shop.tells(0, i, s), isThere ? i == 0 ? 0 : -15 : NO_TELLING);
            }
        }
        is("no such cause", bench.shop.tells(-1, 0, 0), NO_TELLING);
        is("no such cause", bench.shop.tells(5 * 61 * 9, 0, 0), NO_TELLING);
        is("the last, of the dull step", bench.shop.tells(5 * 61 * 9 - 1, 39, 1), 51);
        is("the last, of the other", bench.shop.tells(5 * 61 * 9 - 1, 39, 0), 20);
    }

    /** "h times i over 5 (cut towards 0) .. and g times i over 5 (cut)" */
    private static void tellsCutTowards0() {
        Bench bench = Bench.with(ONE);
        int[][] due = {{0, 0, 0, 0, 0, 0}, {2, 0, 0, 0, 0, 1}, {3, -1, 0, 0, 1, 2}, {4, -1, 0, 0, 1, 3}, {5, -2, -1, 1, 2, 4},
            {7, -2, -1, 1, 2, 5}, {8, -3, -1, 1, 3, 6}, {39, -15, -7, 7, 15, 31}};
        int[] heats = {0, A_HEAT, 3 * A_HEAT, 4 * A_HEAT};
        for (int[] one : due) {
            for (int n = 0; n < 4; n++) is("heat " + n + " of " + one[0], bench.shop.tells(heats[n], one[0], 0), one[n + 1]);
            // HEAT 0, dull by 4.
            is("dull of " + one[0], bench.shop.tells(2 * A_HEAT + 4, one[0], 0), one[5]);
        }
        // Each is cut by itself: -2 * 4 over 5 and 3 * 4 over 5 are -1 and 2.
        is("cut apart", bench.shop.tells(3, 4, 0), 1);
    }

    /** "and w if its TOOL is worn and i is f or more" */
    private static void wornFromItsPartOn() {
        Bench bench = Bench.with(ONE + "tool b 1 1; step b 1;");
        int dulls = 9;
        int even = 2 * 121 * dulls;
        for (int f = 0; f < 12; f++) {
            int n = even + (1 + f * 5 + 4) * dulls;
            causeIs(bench, n, 0, 0, f, 5, NONE, 0);
            for (int i : new int[] {f - 1, f, f + 1}) {
                is("part " + i + " from " + f, bench.shop.tells(n, i, 0), i < 0 ? NO_TELLING : i < f ? 0 : 5);
                is("another tool", bench.shop.tells(n, i, 1), i < 0 ? NO_TELLING : 0);
            }
        }
    }

    // ---- promises 32 and 33

    private static void surelyOfNumbers() {
        Bench bench = Bench.with(ONE + "tool b 1 1; step b 1; step b 1;");
        for (int known : new int[] {-1, 0, 999, 1000, Integer.MIN_VALUE, Integer.MAX_VALUE}) {
            boolean isKnown = known == 0 || known == 999;
            for (int t = -1; t <= 2; t++) {
                is("worn " + t + " " + known, bench.shop.surelyWorn(t, known), isKnown && t >= 0 && t < 2 ? 2 : RANGE);
            }
            for (int s = -1; s <= 3; s++) {
                is("dull " + s + " " + known, bench.shop.surelyDull(s, known), isKnown && s >= 0 && s < 3 ? 2 : RANGE);
            }
        }
        for (int far : FAR) {
            is("worn", bench.shop.surelyWorn(far, 0), RANGE);
            is("dull", bench.shop.surelyDull(far, 0), RANGE);
        }
        is("no tools", new Bench().shop.surelyWorn(0, 0), RANGE);
        is("no steps", Bench.with("tool a 1 1;").shop.surelyDull(0, 0), RANGE);
        is("a tool without steps", Bench.with("tool a 1 1;").shop.surelyWorn(0, 0), 2);
    }

    /** "SURELY: of a TOOL being worn, or a STEP dull: 1 by all FIT, 0 by none, 2 else" */
    private static void surelyByAllSomeNone() {
        Bench worn = Bench.with(ONE + "tool b 1 1; step b 1;");
        is("gauge", worn.shop.gauge(0, 0, 0, 5), 0);
        is("by all", worn.shop.surelyWorn(0, 0), 1);
        is("by none", worn.shop.surelyWorn(1, 0), 0);
        is("by some", worn.shop.surelyDull(0, 0), 2);
        is("by some", worn.shop.surelyDull(1, 0), 2);
        // Of 39 parts 31 and 15 are 46: HEAT 2 and dull by 4 alone, whatever else.
        Bench dull = Bench.with(ONE + "tool b 1 1; step b 1;");
        is("gauge", dull.shop.gauge(0, 39, 1, 46), 0);
        is("gauge", dull.shop.gauge(0, 39, 0, 15), 1);
        is("by all", dull.shop.surelyDull(1, 0), 1);
        is("by none", dull.shop.surelyDull(0, 0), 0);
        is("by none", dull.shop.surelyWorn(0, 0), 0);
    }

    /** A STEP is dull by 1 as well as by 4: of part 39 it is off by 7, 15, 23, 31 more than the other of its TOOL. */
    private static void surelyDullByAnyGrade() {
        int[] offs = {7, 15, 23, 31};
        for (int off : offs) {
            Bench bench = Bench.with(ONE + "step a 1;");
            is("gauge", bench.shop.gauge(0, 39, 0, 0), 0);
            is("gauge", bench.shop.gauge(0, 39, 1, off), 1);
            is("the one", bench.shop.surelyDull(1, 0), 1);
            is("not the other", bench.shop.surelyDull(0, 0), 0);
            is("sharp", bench.shop.gauge(1, 38, 1, 0), 2);
            is("none fit", bench.shop.surelyDull(1, 1), NONE);
        }
    }

    // ---- promise 34

    /** "NEXT: the part (0 .. 19) and STEP for which the most FIT .. that tell alike are fewest" */
    private static void nextOfParts0To19() {
        // Worn by 3 from part 0 or 1 on, in three ways each: part 0 alone parts them.
        Bench first = Bench.with(ONE);
        is("gauge", first.shop.gauge(0, 1, 0, 3), 0);
        is("gauge", first.shop.gauge(0, 39, 0, 3), 1);
        is("six fit", first.shop.fit(0, 0), 6);
        is("part 0", first.shop.next(), 0);
        // Nine kinds, each worn from 5 or 6 on, tell 11 .. 18 and 20 of part 19; of earlier parts some tell alike.
        Bench last = Bench.with(ONE + "step a 1;");
        is("gauge", last.shop.gauge(0, 6, 0, 7), 0);
        is("gauge", last.shop.gauge(0, 4, 1, 0), 1);
        is("18 fit", last.shop.fit(0, 0), 18);
        is("part 19", last.shop.next(), 190);
        is("part 19, asked again", last.shop.next(), 190);
        // Of part 20 nine at most would tell alike, of part 6 ten.
        Bench beyond = Bench.with(ONE);
        is("gauge", beyond.shop.gauge(0, 2, 0, 1), 0);
        is("gauge", beyond.shop.gauge(0, 13, 0, 12), 1);
        is("38 fit", beyond.shop.fit(0, 0), 38);
        is("not part 20", beyond.shop.next(), 60);
        // Of all 1525 some 86 tell alike of part 19, 60 of part 39.
        is("of all", Bench.with(ONE).shop.next(), 190);
    }

    /** "NONE: none parts them." */
    private static void nextWithoutParting() {
        is("no steps", new Bench().shop.next(), NONE);
        is("one fits", oneLeft().shop.next(), NONE);
        is("none fits", changing().shop.next(), NONE);
        // HEAT and the DULL STEP even out in three ways, which tell alike of every part.
        Bench three = Bench.with(ONE);
        is("gauge", three.shop.gauge(0, 0, 0, 3), 0);
        is("gauge", three.shop.gauge(0, 5, 0, 3), 1);
        is("three fit", three.shop.fit(0, 0), 3);
        is("none parts them", three.shop.next(), NONE);
        // Two STEPS: the other one tells them apart.
        Bench two = Bench.with(ONE + "step a 1;");
        is("gauge", two.shop.gauge(0, 0, 0, 3), 0);
        is("gauge", two.shop.gauge(0, 5, 0, 3), 1);
        is("gauge", two.shop.gauge(0, 0, 1, 3), 2);
        is("seven fit", two.shop.fit(0, 0), 7);
        // HEAT 0 with STEP 1 dull by 0 .. 4, HEAT -1 and -2 with STEP 0 dull: part 5 is the first to tell all apart.
        is("by step 1", two.shop.next(), 51);
    }

    /** "of alike ones the least part, then the least STEP" */
    private static void nextLeastOfAlikeOnes() {
        Bench bench = Bench.with(ONE);
        is("gauge", bench.shop.gauge(0, 0, 0, 0), 0);
        is("gauge", bench.shop.gauge(0, 39, 0, 2), 1);
        is("gauge", bench.shop.gauge(0, 5, 0, 0), 2);
        is("gauge", bench.shop.gauge(0, 10, 0, 2), 3);
        // Worn by 2 from 6 .. 10 on, in three ways each: part 7 parts 6 from 9, part 8 parts 9 from 6.
        is("fit", bench.shop.fit(0, 0), 15);
        is("next", bench.shop.next(), 70);
        Bench same = Bench.with("tool a 1 1; tool b 1 1; step a 1; step b 1;");
        Bench turned = Bench.with("tool a 1 1; tool b 1 1; step b 1; step a 1;");
        is("step 0 of alike ones", same.shop.next() % 10, 0);
        is("step 0 of alike ones", turned.shop.next() % 10, 0);
        is("the same part", same.shop.next(), turned.shop.next());
    }

    // ---- promise 35

    /** "HALT by a limit (0 .. 99), as known at a STAGE; .. RANGE" */
    private static void limitsOfHalt() {
        Bench bench = Bench.with(ONE);
        int[] limits = {-1, 0, 99, 100, Integer.MIN_VALUE, Integer.MAX_VALUE};
        int[] due = {RANGE, 0, NONE, RANGE, RANGE, RANGE};
        for (int n = 0; n < limits.length; n++) {
            is("halt " + limits[n], bench.shop.halt(limits[n], 0), due[n]);
            is("halt " + limits[n], bench.shop.halt(limits[n], 999), due[n]);
            is("halt " + limits[n], bench.shop.halt(limits[n], -1), RANGE);
            is("halt " + limits[n], bench.shop.halt(limits[n], 1000), RANGE);
        }
        is("no steps", new Bench().shop.halt(0, 0), NONE);
        is("no steps", new Bench().shop.halt(100, 0), RANGE);
    }

    /** "the first part (0 .. 39) of which by some FIT some STEP is off by more than the limit, either way" */
    private static void haltAtTheFirstAndTheLastPart() {
        Bench bench = Bench.with(ONE);
        is("5 are more than 4", bench.shop.halt(4, 0), 0);
        is("5 are no more than 5", bench.shop.halt(5, 0), 2);
        // Of part 38: 15 and 5 and 30; of part 39: 15 and 5 and 31.
        is("just", bench.shop.halt(49, 0), 38);
        is("at the last part", bench.shop.halt(50, 0), 39);
        is("beyond the last part", bench.shop.halt(51, 0), NONE);
        Bench steps = Bench.with(ONE + "step a 1; tool b 1 1; step b 1;");
        is("gauge", steps.shop.gauge(0, 0, 0, 0), 0);
        is("some step", steps.shop.halt(4, 0), 0);
    }

    private static void haltBelow() {
        Bench bench = Bench.with(ONE);
        is("gauge", bench.shop.gauge(0, 39, 0, -15), 0);
        is("one fits", bench.shop.fit(0, 0), 1);
        is("-1 from 3 on", bench.shop.halt(0, 0), 3);
        is("-14 from 35 on", bench.shop.halt(13, 0), 35);
        is("-15 from 38 on", bench.shop.halt(14, 0), 38);
        is("never -16", bench.shop.halt(15, 0), NONE);
        is("ahead of it", Bench.with(ONE).shop.halt(15, 0), 10);
    }

    private static void haltByEarlierWear() {
        Bench bench = oneLeft();
        // -2 from 5 on, -3 from 8 on, -4 and 1 from 10 on, -5 and 1 from 13 on.
        is("more than 1", bench.shop.halt(1, 0), 5);
        is("more than 2", bench.shop.halt(2, 0), 8);
        is("more than 3", bench.shop.halt(3, 0), 13);
        is("more than 13", bench.shop.halt(13, 0), 38);
        is("more than 14", bench.shop.halt(14, 0), NONE);
    }

    private static void haltByADullStep() {
        int[] offs = {7, 15, 23, 31};
        int[] beyond6 = {35, 18, 12, 9};
        for (int n = 0; n < 4; n++) {
            Bench bench = Bench.with(ONE + "step a 1;");
            is("gauge", bench.shop.gauge(0, 39, 0, offs[n]), 0);
            is("gauge", bench.shop.gauge(0, 39, 1, 0), 1);
            is("one fits", bench.shop.fit(0, 0), 1);
            is("more than 6", bench.shop.halt(6, 0), beyond6[n]);
            is("just not", bench.shop.halt(offs[n], 0), NONE);
            is("just", bench.shop.halt(offs[n] - 1, 0) == NONE ? 1 : 0, 0);
        }
    }

    // ---- promise 36

    private static void limitsOfBin() {
        Bench bench = Bench.with(ONE);
        // The least CAUSE is HEAT -2 alone.
        int[] limits = {-1, 0, 99, 100, Integer.MIN_VALUE, Integer.MAX_VALUE};
        int[] due = {RANGE, 2, 0, RANGE, RANGE, RANGE};
        for (int n = 0; n < limits.length; n++) {
            is("bin " + limits[n], bench.shop.bin(39, limits[n], 0), due[n]);
            is("bin " + limits[n], bench.shop.bin(39, limits[n], 999), due[n]);
            is("bin " + limits[n], bench.shop.bin(39, limits[n], -1), RANGE);
            is("bin " + limits[n], bench.shop.bin(39, limits[n], 1000), RANGE);
        }
        int[] parts = {-1, 0, 39, 40, Integer.MIN_VALUE, Integer.MAX_VALUE};
        int[] bins = {RANGE, 0, 2, RANGE, RANGE, RANGE};
        for (int n = 0; n < parts.length; n++) is("bin of " + parts[n], bench.shop.bin(parts[n], 0, 0), bins[n]);
        is("no steps", new Bench().shop.bin(39, 0, 999), 0);
        is("no steps", new Bench().shop.bin(40, 0, 999), RANGE);
    }

    /** "0 if all STEPS are off by a limit at most, 1 if some are off by more above alone, 2 below alone, 3 both" */
    private static void binsJustAtTheLimit() {
        // HEAT -2 and TOOL a worn by 5: of part 5 off by 3 and by -2, of part 10 by 1 and -4, of part 13 by 0 and -5.
        Bench bench = Bench.with(ONE + "tool b 1 1; step b 1;");
        is("gauge", bench.shop.gauge(0, 0, 0, 5), 0);
        causeIs(bench, bench.shop.fit(0, 1), -2, 0, 0, 5, NONE, 0);
        int[][] due = {{5, 0, 3}, {5, 1, 3}, {5, 2, 1}, {5, 3, 0}, {10, 0, 3}, {10, 1, 2}, {10, 3, 2}, {10, 4, 0},
            {13, 0, 2}, {13, 4, 2}, {13, 5, 0}, {0, 0, 1}, {0, 4, 1}, {0, 5, 0}, {2, 0, 1}, {3, 0, 3}};
        for (int[] one : due) is("bin " + one[0] + " " + one[1], bench.shop.bin(one[0], one[1], 0), one[2]);
    }

    /** "BIN of a part by the least CAUSE of FIT" */
    private static void binByTheLeastCause() {
        Bench bench = Bench.with(ONE);
        is("gauge", bench.shop.gauge(0, 5, 0, 0), 0);
        // The least: HEAT -2 and a STEP dull by 2, which is off by 0 of each part.
        causeIs(bench, bench.shop.fit(0, 1), -2, NONE, 0, 0, 0, 2);
        for (int i = 0; i < 40; i++) is("bin of " + i, bench.shop.bin(i, 0, 0), 0);
        is("gauge", bench.shop.gauge(1, 5, 0, 1), 1);
        is("none fit", bench.shop.bin(5, 0, 1), NONE);
        is("as it was", bench.shop.bin(5, 0, 0), 0);
    }

    // ---- promise 37

    private static void numbersOfCount() {
        Bench bench = changing();
        bench.tape("abcde");
        int[] due = {NONE, 2, 1, 2, 5, ALL, NONE};
        for (int what = -1; what <= 5; what++) is("count " + what, bench.shop.count(what), due[what + 1]);
        for (int far : FAR) is("count", bench.shop.count(far), NONE);
        is("no part", bench.shop.part(), NONE);
        int[] then = {NONE, 2, 1, 2, 0, ALL, NONE};
        for (int what = -1; what <= 5; what++) is("count " + what, bench.shop.count(what), then[what + 1]);
        is("part", bench.part(""), 0);
        int[] last = {NONE, 0, 0, 0, 0, 5, NONE};
        for (int what = -1; what <= 5; what++) is("count " + what, bench.shop.count(what), last[what + 1]);
        Bench most = Bench.with(MOST + "after 0 1;after 0 2;meet a b;idle 3;");
        is("clauses", most.shop.count(0), 17);
    }
}
