import java.util.ArrayList;
import java.util.List;
import java.util.function.Consumer;
import java.util.function.ToLongFunction;

/**
 * A refused call leaves all as it was, but for THE TAPE and, behind part(), the FAULT. Two shops with the same
 * past are asked everything; one of them has refused a call just before. No shop gets more than 512 calls.
 */
public final class RefusedTest {
    private static final int NONE = -1;
    private static final int RANGE = -2;
    private static final int FULL = -3;

    /** A call, what it tells, and what stands on THE TAPE ahead of it (null: it does not read THE TAPE). */
    private record Refused(String name, String tape, long due, ToLongFunction<DiscLathe> call) { }

    private static final List<Refused> REFUSED = new ArrayList<>();

    public static void main(String[] args) {
        tapeAndPart();
        plansAndDiscs();
        oldDiscs();
        wheels();
        gauged();
        for (Refused one : REFUSED) compareAll(one, RefusedTest::usual);
        REFUSED.clear();
        full();
        for (Refused one : REFUSED) compareAll(one, RefusedTest::filled);
        REFUSED.clear();
        asked();
        for (Refused one : REFUSED) compareAll(one, RefusedTest::usual);
        faultsAreTold();
        newShopRefuses();
        Bench.closeTest("RefusedTest");
    }

    private static void refused(String name, long due, ToLongFunction<DiscLathe> call) {
        REFUSED.add(new Refused(name, null, due, call));
    }

    private static void refusedTape(String name, String tape, long due, ToLongFunction<DiscLathe> call) {
        REFUSED.add(new Refused(name, tape, due, call));
    }

    // ---- the past of both shops

    private static void usual(Bench bench) {
        past(bench);
        bench.shop.gauge(3, 0, 0, 2);
        bench.shop.gauge(4, 5, 1, 1);
        bench.shop.right(6, 0, 1);
        bench.tape("idle 3;");
    }

    /** No room for another GAUGED, putting RIGHT or feed. */
    private static void filled(Bench bench) {
        past(bench);
        for (int n = 0; n < 16; n++) bench.shop.gauge(3, n, 0, 0);
        for (int n = 0; n < 20; n++) bench.shop.right(6, n % 16, 0);
        bench.tape("idle 3;" + " ".repeat(793));
    }

    private static void past(Bench bench) {
        bench.part("tool a 2 3; tool b 1 9; tool c 1 1; step a 9 4; step b 20; step a 5; step c 30 7; after 0 1; after 0 3; meet b c; idle 5;");
        bench.shop.keep(0, 0, 7);
        bench.shop.keep(1, 2, 30);
        bench.shop.share(300);
        bench.box("10 20 30 60");
        bench.shop.train(9, 1, NONE);
        bench.part("tool a 0 0;");
    }

    // ---- asking everything

    private static void compareAll(Refused one, Consumer<Bench> past) {
        for (int group = 0; group < 7; group++) {
            if (group == 6 && one.tape != null) continue;
            Bench asked = new Bench();
            Bench twin = new Bench();
            past.accept(asked);
            past.accept(twin);
            if (one.tape != null) {
                for (Bench bench : new Bench[] {asked, twin}) {
                    bench.shop.end(0);
                    bench.tape(one.tape);
                }
            }
            Bench.is(one.name, one.call.applyAsLong(asked.shop), one.due);
            if (one.tape != null) twin.shop.end(0);
            List<Long> got = answers(asked.shop, group);
            List<Long> want = answers(twin.shop, group);
            for (int n = 0; n < want.size(); n++) Bench.is(one.name + " changed answer " + n + " of group " + group, got.get(n), want.get(n));
        }
    }

    private static List<Long> answers(DiscLathe shop, int group) {
        List<Long> all = new ArrayList<>();
        switch (group) {
            case 0: partAndPlan(shop, all); break;
            case 1: heights(shop, all); break;
            case 2: oldHeights(shop, all); break;
            case 3: stock(shop, all); break;
            case 4: causes(shop, all); break;
            case 5: gaugedThen(shop, all); break;
            default: tapeThen(shop, all);
        }
        return all;
    }

    private static void partAndPlan(DiscLathe shop, List<Long> all) {
        for (int what = 0; what <= 70; what++) all.add((long) shop.told(what));
        for (int what = 0; what < 5; what++) all.add((long) shop.count(what));
        for (int k = 0; k < 5; k++) {
            all.add((long) shop.begin(k));
            all.add((long) shop.held(k));
            for (int what = 0; what < 5; what++) all.add((long) shop.lobe(k, what));
        }
        for (int t = 0; t < 4; t++) all.add((long) shop.slope(t));
        all.add((long) shop.wrong(0));
        all.add((long) shop.wrong(1));
    }

    private static void heights(DiscLathe shop, List<Long> all) {
        for (int t = 0; t < 3; t++) {
            for (int m = 0; m < 100; m++) all.add((long) shop.height(t, m));
        }
    }

    private static void oldHeights(DiscLathe shop, List<Long> all) {
        for (int k = 0; k < 4; k++) {
            for (int m = k % 2; m < 100; m += 2) all.add((long) shop.was(k, m));
        }
    }

    private static void stock(DiscLathe shop, List<Long> all) {
        for (int t = 0; t < 4; t++) {
            all.add((long) shop.shared(t));
            for (int k = 0; k < 4; k++) {
                for (int what = 0; what < 3; what++) all.add((long) shop.file(t, k, what));
            }
        }
        for (int i = 0; i < 5; i++) {
            all.add((long) shop.teeth(i));
            all.add((long) shop.wheel(i));
            for (int n = 1; n < 10; n++) all.add(shop.worn(i, n));
        }
        all.add(shop.off(false));
        all.add(shop.off(true));
        all.add((long) shop.spare(2, 1));
        all.add((long) shop.train(2, 1, 1));
        all.add((long) shop.share(5000));
        for (int t = 0; t < 4; t++) all.add((long) shop.shared(t));
    }

    private static void causes(DiscLathe shop, List<Long> all) {
        for (int known : new int[] {0, 3, 4, 5, 6, 999}) {
            all.add((long) shop.fit(known, 0));
            all.add((long) shop.fit(known, 1));
            for (int t = 0; t < 3; t++) all.add((long) shop.surelyWorn(t, known));
            for (int s = 0; s < 4; s++) all.add((long) shop.surelyDull(s, known));
            for (int limit = 0; limit < 12; limit += 3) {
                all.add((long) shop.halt(limit, known));
                all.add((long) shop.bin(20, limit, known));
            }
        }
        all.add((long) shop.next());
        for (int what = 0; what < 6; what++) all.add((long) shop.cause(4321, what));
        all.add((long) shop.tells(4321, 39, 0));
    }

    /** The latest STAGE, how often each was put RIGHT, and the room that is left. */
    private static void gaugedThen(DiscLathe shop, List<Long> all) {
        all.add((long) shop.gauge(5, 0, 0, 0));
        all.add((long) shop.right(5, 0, 0));
        all.add((long) shop.right(6, 0, 1));
        all.add((long) shop.right(6, 1, 1));
        all.add((long) shop.gauge(6, 7, 2, 1));
        all.add((long) shop.fit(6, 0));
        all.add((long) shop.fit(6, 1));
        all.add((long) shop.count(1));
        all.add((long) shop.count(2));
    }

    private static void tapeThen(DiscLathe shop, List<Long> all) {
        all.add((long) shop.fault(0));
        all.add((long) shop.fault(1));
        all.add((long) shop.part());
        all.add((long) shop.told(2));
        all.add((long) shop.count(0));
    }

    // ---- what is refused

    private static void tapeAndPart() {
        refused("end -1", NONE, s -> s.end(-1));
        refused("end beyond", NONE, s -> s.end(s.count(3) + 1));
        for (int what : new int[] {-1, 2}) refused("fault " + what, NONE, s -> s.fault(what));
        for (int what : new int[] {-1, 5, 9, 14, 24, 34, 43, 53, 63, 70}) refused("told " + what, NONE, s -> s.told(what));
        for (int what : new int[] {-1, 5}) refused("count " + what, NONE, s -> s.count(what));
        String[] faults = {"tool d 1 1; step d 1; idle 1; !", "tool d 1 1; step d 1; idle 41;", "idle 1; idle 1;",
            "tool a 1 1;tool b 1 1;tool c 1 1;tool d 1 1;tool e 1 1;tool f 1 1;step a 1;tool", "idle 1; step zz 1;", "x".repeat(800)};
        for (String text : faults) refusedTape("part " + text, text, NONE, DiscLathe::part);
    }

    private static void plansAndDiscs() {
        for (int k : new int[] {-1, 4}) {
            refused("begin " + k, RANGE, s -> s.begin(k));
            refused("held " + k, RANGE, s -> s.held(k));
            refused("lobe " + k, RANGE, s -> s.lobe(k, 0));
        }
        for (int what : new int[] {-1, 5}) refused("lobe 0 " + what, RANGE, s -> s.lobe(0, what));
        for (int what : new int[] {-1, 2}) refused("wrong " + what, NONE, s -> s.wrong(what));
        for (int t : new int[] {-1, 3}) {
            refused("height " + t, RANGE, s -> s.height(t, 0));
            refused("slope " + t, RANGE, s -> s.slope(t));
        }
        for (int m : new int[] {-1, 100}) refused("height 0 " + m, RANGE, s -> s.height(0, m));
        for (String row : new String[] {"", "012", "01233", "0122", "1023", "012/", "3210", "0".repeat(800)}) {
            refusedTape("byRow " + row, row, NONE, DiscLathe::byRow);
        }
    }

    private static void oldDiscs() {
        String row = "11".repeat(100);
        for (int k : new int[] {-1, 4}) {
            refusedTape("old " + k, row, RANGE, s -> s.old(k));
            refused("was " + k, RANGE, s -> s.was(k, 0));
            refused("keep 0 " + k, RANGE, s -> s.keep(0, k, 0));
            refused("file 0 " + k, RANGE, s -> s.file(0, k, 0));
        }
        for (String none : new String[] {"", row.substring(1), row + "1", row.substring(2) + "0/", row.substring(2) + ":0"}) {
            refusedTape("old of " + none.length(), none, NONE, s -> s.old(0));
        }
        for (int m : new int[] {-1, 100}) refused("was 0 " + m, RANGE, s -> s.was(0, m));
        for (int t : new int[] {-1, 3}) {
            refused("keep " + t, RANGE, s -> s.keep(t, 0, 0));
            refused("file " + t, RANGE, s -> s.file(t, 0, 0));
            refused("shared " + t, NONE, s -> s.shared(t));
        }
        for (int base : new int[] {-1, 501}) refused("keep by " + base, RANGE, s -> s.keep(2, 0, base));
        for (int what : new int[] {-1, 3}) refused("file 0 0 " + what, RANGE, s -> s.file(0, 0, what));
        for (int price : new int[] {-1, 100000}) refused("share " + price, RANGE, s -> s.share(price));
        refused("file from one that is too low", NONE, s -> s.file(0, 1, 0));
    }

    private static void wheels() {
        for (String none : new String[] {"44 9", "44 201", "44;", "44 x", "44 00044", "44 44 44 44 44 44 44 44 44 44 44"}) {
            refusedTape("box " + none, none, NONE, DiscLathe::box);
        }
        for (int i : new int[] {-1, 4}) {
            refused("teeth " + i, RANGE, s -> s.teeth(i));
            refused("wheel " + i, NONE, s -> s.wheel(i));
            refused("worn " + i, RANGE, s -> s.worn(i, 1));
        }
        for (int n : new int[] {0, 10}) {
            refused("worn 0 " + n, RANGE, s -> s.worn(0, n));
        }
        for (int p : new int[] {0, 10000}) {
            refused("train " + p, RANGE, s -> s.train(p, 1, NONE));
            refused("train 1 " + p, RANGE, s -> s.train(1, p, NONE));
            refused("spare " + p, RANGE, s -> s.spare(p, 1));
            refused("spare 1 " + p, RANGE, s -> s.spare(1, p));
        }
        for (int without : new int[] {-2, 4}) refused("train without " + without, RANGE, s -> s.train(2, 1, without));
    }

    private static void gauged() {
        for (int stage : new int[] {-1, 5, 1000}) {
            refused("gauge at " + stage, RANGE, s -> s.gauge(stage, 0, 0, 0));
            refused("right at " + stage, RANGE, s -> s.right(stage, 0, 0));
        }
        for (int i : new int[] {-1, 40}) {
            refused("gauge of part " + i, RANGE, s -> s.gauge(900, i, 0, 0));
            refused("tells of part " + i, -9999, s -> s.tells(0, i, 0));
            refused("bin of part " + i, RANGE, s -> s.bin(i, 0, 3));
        }
        for (int step : new int[] {-1, 4}) {
            refused("gauge of step " + step, RANGE, s -> s.gauge(900, 0, step, 0));
            refused("tells of step " + step, -9999, s -> s.tells(0, 0, step));
            refused("dull " + step, RANGE, s -> s.surelyDull(step, 3));
        }
        for (int off : new int[] {-100, 100}) {
            refused("gauge off " + off, RANGE, s -> s.gauge(900, 0, 0, off));
            refused("right off " + off, RANGE, s -> s.right(900, 0, off));
        }
        for (int k : new int[] {-1, 2}) refused("right of " + k, RANGE, s -> s.right(900, k, 0));
        for (int known : new int[] {-1, 1000}) {
            refused("fit at " + known, RANGE, s -> s.fit(known, 0));
            refused("worn at " + known, RANGE, s -> s.surelyWorn(0, known));
            refused("dull at " + known, RANGE, s -> s.surelyDull(0, known));
            refused("halt at " + known, RANGE, s -> s.halt(0, known));
            refused("bin at " + known, RANGE, s -> s.bin(0, 0, known));
        }
        for (int what : new int[] {-1, 2}) refused("fit 3 " + what, RANGE, s -> s.fit(3, what));
        for (int what : new int[] {-1, 6}) refused("cause 0 " + what, -9, s -> s.cause(0, what));
        for (int n : new int[] {-1, 5 * 181 * 17}) {
            refused("cause " + n, -9, s -> s.cause(n, 0));
            refused("tells " + n, -9999, s -> s.tells(n, 0, 0));
        }
        for (int t : new int[] {-1, 3}) refused("worn " + t, RANGE, s -> s.surelyWorn(t, 3));
        for (int limit : new int[] {-1, 100}) {
            refused("halt by " + limit, RANGE, s -> s.halt(limit, 3));
            refused("bin by " + limit, RANGE, s -> s.bin(0, limit, 3));
        }
    }

    private static void full() {
        refused("feed of a full tape", FULL, s -> s.feed(0x3b3b3b3b, 0x3b3b3b3b, 0x3b3b3b3b, 0x3b3b3b3b, 0x3b3b3b3b));
        refused("17th gauge", FULL, s -> s.gauge(900, 1, 1, 5));
        refused("21st right", FULL, s -> s.right(900, 1, 5));
        refused("gauge of what can't be", RANGE, s -> s.gauge(5, 1, 1, 5));
        refused("right of what can't be", RANGE, s -> s.right(900, 16, 5));
    }

    /** Calls that are answered and still change nothing (but for THE TAPE). */
    private static void asked() {
        refused("end as it is", 7, s -> s.end(7));
        refused("spare", 2, s -> s.spare(2, 1));
        refused("file", 0, s -> s.file(0, 0, 0));
        refused("fit at an earlier stage", 5 * 181 * 17, s -> s.fit(0, 0));
        refused("halt at an earlier stage", 0, s -> s.halt(0, 0));
        refused("bin at an earlier stage", 2, s -> s.bin(39, 0, 0));
        refused("cause", 2, s -> s.cause(5 * 181 * 17 - 1, 0));
        refused("tells", 51, s -> s.tells(5 * 181 * 17 - 1, 39, 3));
        refused("next leaves what is known", 0, s -> Math.min(0, s.next() + 1));
        // STEP 0: 0 .. 22, STEP 1 behind it to 42, STEP 2 behind it to 32, STEP 3 meets STEP 1: 42 .. 79.
        refusedTape("a row", "0123", 79, DiscLathe::byRow);
    }

    /** part() with a FAULT changes the FAULT alone. */
    private static void faultsAreTold() {
        Bench bench = new Bench();
        usual(bench);
        Bench.is("kind", bench.shop.fault(0), 2);
        Bench.is("place", bench.shop.fault(1), 7);
        bench.shop.end(0);
        Bench.is("no part", bench.part(" zz"), NONE);
        Bench.is("kind", bench.shop.fault(0), 1);
        Bench.is("place", bench.shop.fault(1), 1);
        Bench.is("tape", bench.shop.count(3), 0);
        Bench.is("tools stay", bench.shop.told(0), 3);
    }

    /** What a new shop refuses leaves it new. */
    private static void newShopRefuses() {
        long[] due = {NONE, RANGE, RANGE, RANGE, NONE, -4, RANGE, RANGE, RANGE, NONE, RANGE};
        for (int group = 0; group < 7; group++) {
            DiscLathe shop = new DiscLathe();
            long[] got = {shop.end(1), shop.keep(0, 0, 5), shop.share(-1), shop.train(0, 1, NONE), shop.train(1, 1, NONE), shop.worn(0, 1),
                shop.gauge(5, 0, 0, 0), shop.right(5, 0, 0), shop.fit(-1, 0), shop.old(0), shop.old(4)};
            for (int n = 0; n < due.length; n++) Bench.is("new refuses " + n, got[n], due[n]);
            List<Long> then = answers(shop, group);
            List<Long> want = answers(new DiscLathe(), group);
            for (int n = 0; n < want.size(); n++) Bench.is("new shop's answer " + n + " of group " + group, then.get(n), want.get(n));
        }
    }
}
