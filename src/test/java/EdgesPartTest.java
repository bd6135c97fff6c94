/** Terms I with promises 1 to 6: each boundary that they name and what stands next to it, a method a sentence. */
public final class EdgesPartTest {
    private static final int NONE = -1;
    private static final int RANGE = -2;
    private static final int FULL = -3;
    private static final int STATE = -4;

    private static final int SYNTAX = 1;
    private static final int OUT = 2;
    private static final int TWICE = 3;
    private static final int ROOM = 4;
    private static final int UNKNOWN = 5;

    private static final String TOOL = "tool a 1 1;";
    private static final String SIX_TOOLS = TOOL + "tool b 1 1;tool c 1 1;tool d 1 1;tool e 1 1;tool f 1 1;";
    private static final String SEVEN_STEPS = "step a 1;".repeat(7);
    private static final String THREE_STEPS = TOOL + "step a 1;step a 1;step a 1;";

    public static void main(String[] args) {
        newObjectTellsNothing();
        newObjectAnswersAll();
        tapeOf800Bytes();
        tapeWithRoomForOneFeed();
        highestByteFirst();
        endOfTheTape();
        readingEmptiesTheTape();
        emptyText();
        blanksAreTwo();
        wordsOf8And9Letters();
        numbersOf4And5Digits();
        boundsOfNumbers();
        dwellAndIdleIfNotTold();
        sixthAndSeventhTool();
        seventhAndEighthStep();
        textEndsBehindEachToken();
        wrongTokenBehindEachToken();
        firstFaultIsTold();
        stepsOfAfter();
        afterTwice();
        meetTwice();
        namesTwice();
        idleTwice();
        namesUnknown();
        namesAreAnyWords();
        faultOfTheLatestPart();
        partWithFaultBehindOneWithout();
        partMakesAllAnew();
        numbersOfTold();
        numbersOfToldWithoutAPart();
        Bench.closeTest("EdgesPartTest");
    }

    private static void is(String what, long got, long want) {
        Bench.is(what, got, want);
    }

    private static void fault(String text, int kind, int place) {
        Bench.isFault(text, kind, place);
    }

    /** The text must be a PART with so many clauses. */
    private static Bench whole(String text, int clauses) {
        Bench bench = new Bench();
        is("part " + text, bench.part(text), clauses);
        is("kind of " + text, bench.shop.fault(0), 0);
        is("place of " + text, bench.shop.fault(1), NONE);
        return bench;
    }

    // ---- promise 1

    /** "No TOOLS, no STEPS; all else as if it isn't told." */
    private static void newObjectTellsNothing() {
        DiscLathe shop = new DiscLathe();
        int[] told = {0, 0, 10, 0, 0};
        for (int what = -1; what <= 75; what++) {
            is("new told " + what, shop.told(what), what >= 0 && what < 5 ? told[what] : NONE);
        }
        int[] counts = {0, 0, 0, 0, 5};
        for (int what = -1; what <= 6; what++) {
            is("new count " + what, shop.count(what), what >= 0 && what < 5 ? counts[what] : NONE);
        }
        is("new fault", shop.fault(0), 0);
        is("new fault's place", shop.fault(1), NONE);
        for (int k = 0; k < 4; k++) {
            for (int m = 0; m < 100; m += 33) is("new was", shop.was(k, m), 0);
        }
        for (int i = 0; i < 4; i++) is("new wheel", shop.wheel(i), NONE);
        for (int t = 0; t < 6; t++) is("new shared", shop.shared(t), NONE);
        is("new off", shop.off(false), 0);
        is("new off below", shop.off(true), NONE);
    }

    private static void newObjectAnswersAll() {
        DiscLathe shop = new DiscLathe();
        is("new begin", shop.begin(0), RANGE);
        is("new held", shop.held(0), RANGE);
        is("new lobe", shop.lobe(0, 0), RANGE);
        is("new height", shop.height(0, 0), RANGE);
        is("new slope", shop.slope(0), RANGE);
        is("new steep", shop.wrong(0), 0);
        is("new late", shop.wrong(1), 0);
        is("new keep", shop.keep(0, 0, 0), RANGE);
        is("new file", shop.file(0, 0, 0), RANGE);
        is("new share", shop.share(99999), 0);
        is("new teeth", shop.teeth(0), RANGE);
        is("new train", shop.train(1, 1, NONE), NONE);
        is("new train without", shop.train(1, 1, 0), RANGE);
        is("new spare", shop.spare(1, 1), 0);
        is("new worn", shop.worn(0, 1), STATE);
        is("new gauge", shop.gauge(0, 0, 0, 0), RANGE);
        is("new right", shop.right(0, 0, 0), RANGE);
        is("new fit", shop.fit(0, 0), 5);
        is("new least fit", shop.fit(999, 1), 0);
        for (int n = 0; n < 5; n++) is("new cause " + n, shop.cause(n, 0), n - 2);
        is("new cause", shop.cause(5, 0), -9);
        is("new tells", shop.tells(0, 0, 0), -9999);
        is("new surelyWorn", shop.surelyWorn(0, 0), RANGE);
        is("new surelyDull", shop.surelyDull(0, 0), RANGE);
        is("new next", shop.next(), NONE);
        is("new halt", shop.halt(0, 0), NONE);
        is("new bin", shop.bin(39, 0, 0), 0);
        is("new byRow", shop.byRow(), 0);
        is("new part", shop.part(), 0);
        is("new box", shop.box(), 0);
        is("new old", shop.old(0), NONE);
    }

    // ---- promises 2 and 3

    /** "FULL when there would be more than 800": the 800 bytes stay, and the last of them is read. */
    private static void tapeOf800Bytes() {
        Bench bench = new Bench();
        for (int n = 1; n <= 39; n++) is("feed of blanks", feedBlanks(bench), 20 * n);
        bench.tape("             idle 7;");
        is("800 bytes", bench.shop.count(3), 800);
        is("one feed more", feedBlanks(bench), FULL);
        is("and once more", bench.shop.feed(0x3b3b3b3b, 0x3b3b3b3b, 0x3b3b3b3b, 0x3b3b3b3b, 0x3b3b3b3b), FULL);
        is("still 800 bytes", bench.shop.count(3), 800);
        is("as long as it is", bench.shop.end(800), 800);
        is("none longer", bench.shop.end(801), NONE);
        is("800 bytes read", bench.shop.part(), 1);
        is("the last clause", bench.shop.told(2), 7);
        is("empty then", feedBlanks(bench), 20);
    }

    private static int feedBlanks(Bench bench) {
        return bench.shop.feed(0x20202020, 0x20202020, 0x20202020, 0x20202020, 0x20202020);
    }

    private static void tapeWithRoomForOneFeed() {
        for (int bytes : new int[] {0, 1, 19, 20, 779, 780, 781, 782, 799, 800}) {
            Bench bench = new Bench().tape(" ".repeat(bytes));
            boolean isRoom = bytes <= 780;
            is("feed behind " + bytes, feedBlanks(bench), isRoom ? bytes + 20 : FULL);
            is("bytes behind " + bytes, bench.shop.count(3), isRoom ? bytes + 20 : bytes);
            is("text behind " + bytes, bench.part(""), 0);
        }
    }

    /** "Twenty bytes come behind THE TAPE, the highest of each int first." */
    private static void highestByteFirst() {
        DiscLathe shop = new DiscLathe();
        is("feed", shop.feed(0x69646c65, 0x20333b20, 0x746f6f6c, 0x20612035, 0x20363b0a), 20);
        is("idle 3; tool a 5 6;", shop.part(), 2);
        is("idle", shop.told(2), 3);
        is("feed of a", shop.told(50), 5);
        is("slope of a", shop.told(60), 6);
        // Bytes above 127: 149 is 48 and 101, so each height is 101 less 100.
        for (int n = 1; n <= 10; n++) {
            is("feed", shop.feed(0x2f952f95, 0x2f952f95, 0x2f952f95, 0x2f952f95, 0x2f952f95), 20 * n);
        }
        is("high bytes", shop.old(0), 1);
        is("height by a high byte", shop.was(0, 0), 1);
        is("height by a high byte", shop.was(0, 99), 1);
        is("byte 255", new Bench().tape("\u00ff").shop.part(), NONE);
    }

    /** "n; NONE when it has not so many, or n is below 0." */
    private static void endOfTheTape() {
        Bench bench = new Bench();
        is("0 of none", bench.shop.end(0), 0);
        is("1 of none", bench.shop.end(1), NONE);
        is("below 0 of none", bench.shop.end(-1), NONE);
        bench.tape("idle 7;idle");
        for (int n : new int[] {-1, Integer.MIN_VALUE, 12, 800, Integer.MAX_VALUE}) {
            is("end " + n, bench.shop.end(n), NONE);
            is("bytes stay", bench.shop.count(3), 11);
        }
        is("as many as there are", bench.shop.end(11), 11);
        is("bytes stay", bench.shop.count(3), 11);
        is("fewer", bench.shop.end(7), 7);
        is("those cut off are gone", bench.shop.end(8), NONE);
        is("first bytes alone", bench.shop.part(), 1);
        is("first bytes alone", bench.shop.told(2), 7);
        bench.tape("idle 8;");
        is("none of them", bench.shop.end(0), 0);
        is("no bytes", bench.shop.count(3), 0);
        is("no text", bench.shop.part(), 0);
        is("no text", bench.shop.told(2), 10);
    }

    /** "each call that reads it empties it, whatever it tells" */
    private static void readingEmptiesTheTape() {
        Bench bench = new Bench();
        is("part", bench.part("tool a 1 1; step a 3;"), 2);
        emptied(bench);
        is("no part", bench.part("tool a 1 1"), NONE);
        emptied(bench);
        is("row", bench.byRow("0"), 3);
        emptied(bench);
        is("no row", bench.byRow("1"), NONE);
        emptied(bench);
        is("box", bench.box("20 30"), 2);
        emptied(bench);
        is("no box", bench.box("20 3"), NONE);
        emptied(bench);
        is("old", bench.old(0, Bench.flat(7)), 1);
        emptied(bench);
        is("no old disc", bench.tape("0").shop.old(0), NONE);
        emptied(bench);
        is("old disc of no number", bench.old(4, Bench.flat(7)), RANGE);
        emptied(bench);
        is("old disc below 0", bench.old(-1, Bench.flat(7)), RANGE);
        emptied(bench);
    }

    private static void emptied(Bench bench) {
        is("tape is empty", bench.shop.count(3), 0);
        is("tape is empty", bench.shop.end(1), NONE);
    }

    // ---- Terms I: TOKENS

    private static void emptyText() {
        for (String text : new String[] {"", " ", "\n", " \n\n ", " ".repeat(800)}) {
            Bench bench = Bench.with("tool a 1 1; step a 3; idle 4;");
            is("empty text", bench.part(text), 0);
            is("clauses", bench.shop.count(0), 0);
            int[] told = {0, 0, 10, 0, 0};
            for (int what = 0; what < 5; what++) is("empty told " + what, bench.shop.told(what), told[what]);
            is("causes", bench.shop.count(4), 5);
            is("kind", bench.shop.fault(0), 0);
            is("place", bench.shop.fault(1), NONE);
        }
    }

    /** "TOKENS with any blanks (32, 10) between" */
    private static void blanksAreTwo() {
        whole("\n \ntool\na\n\n1 \n 1\n;\n", 1);
        whole("tool a1 1;step a1;step a2 3;after0 1;idle5;", 5);
        fault("toola 1 1;", SYNTAX, 0);
        fault("tool a 11;", SYNTAX, 9);
        for (int sign : new int[] {0, 9, 11, 12, 13, 31, 33, 127, 160, 255}) {
            fault("idle" + (char) sign + "5;", SYNTAX, 4);
            fault((char) sign + "idle 5;", SYNTAX, 0);
            fault("idle 5;" + (char) sign, SYNTAX, 7);
        }
        // The signs next to letters, digits and the semicolon.
        for (char sign : new char[] {'`', '{', '/', ':', '<', '@', 'A', 'Z', '[', '-', '+', '.', ','}) {
            fault("idle 5" + sign, SYNTAX, 6);
            fault("tool " + sign, SYNTAX, 5);
        }
    }

    /** "WORDS (small letters, as many as there are, 8 at most)": a run that is too long is SYNTAX at its first byte. */
    private static void wordsOf8And9Letters() {
        String eight = "abcdefgh";
        String nine = "abcdefghi";
        whole("tool " + eight + " 1 1; tool b 1 1; step " + eight + " 1; meet b " + eight + ";", 4);
        whole("tool zzzzzzzz 1 1; tool zzzzzzzy 1 1; tool zzzzzzz 1 1; tool z 1 1;", 4);
        fault("tool " + eight + " 1 1; tool " + eight + " 1 1;", TWICE, 24);
        fault(nine, SYNTAX, 0);
        fault("tool " + nine + " 1 1;", SYNTAX, 5);
        fault("tool " + nine, SYNTAX, 5);
        fault("tool a " + nine, SYNTAX, 7);
        fault("tool a 1 1 " + nine, SYNTAX, 11);
        fault(TOOL + "step " + nine + " 1;", SYNTAX, 16);
        fault(TOOL + "meet " + nine + " a;", SYNTAX, 16);
        fault(TOOL + "meet a " + nine + ";", SYNTAX, 18);
        fault("tooltooltool a 1 1;", SYNTAX, 0);
        fault("z".repeat(800), SYNTAX, 0);
        // Longer runs that would be alike with 64 bits for a name.
        fault("tool " + "a".repeat(14) + " 1 1;", SYNTAX, 5);
        whole("tool a1 1;", 1);
        fault("tool abcd efgh 1;", SYNTAX, 10);
    }

    /** "N (digits, as many as there are, 4 at most)" */
    private static void numbersOf4And5Digits() {
        Bench bench = whole("tool a 0050 0060; step a 0400 0099; step a 0001; after 0000 0001; idle 0040;", 5);
        is("feed", bench.shop.told(50), 50);
        is("slope", bench.shop.told(60), 60);
        is("turns", bench.shop.told(10), 400 * 50 + 99);
        is("waits", bench.shop.told(31), 1);
        is("idle", bench.shop.told(2), 40);
        fault("tool a 00050 1;", SYNTAX, 7);
        fault("tool a 1 00060;", SYNTAX, 9);
        fault(TOOL + "step a 00001;", SYNTAX, 18);
        fault(TOOL + "step a 1 00001;", SYNTAX, 20);
        fault(THREE_STEPS + "after 00000 1;", SYNTAX, 44);
        fault(THREE_STEPS + "after 0 00001;", SYNTAX, 46);
        fault("idle 00040", SYNTAX, 5);
        fault("idle " + "0".repeat(795), SYNTAX, 5);
        // 18446744073709551621 is 5 with 64 bits.
        fault("idle 18446744073709551621;", SYNTAX, 5);
        fault("idle 9999;", OUT, 5);
        fault("idle -1;", SYNTAX, 5);
    }

    /** "FEED 1 .. 50, SLOPE 1 .. 60, RISE 1 .. 400, DWELL 0 .. 99 (0); .. idle 0 .. 40 (10)" */
    private static void boundsOfNumbers() {
        bounds("tool a ", 1, 50, " 1;", 50);
        bounds("tool a 1 ", 1, 60, ";", 60);
        bounds(TOOL + "step a ", 1, 400, ";", 10);
        bounds("tool a 1 1; step a 1 ", 0, 99, ";", 0);
        bounds("idle ", 0, 40, ";", 2);
        is("least dwell", whole(TOOL + "step a 5 0;", 2).shop.told(10), 5);
        is("a dwell of one", whole(TOOL + "step a 5 1;", 2).shop.told(10), 6);
        is("most dwell", whole(TOOL + "step a 5 99;", 2).shop.told(10), 104);
    }

    /** The bounds and the numbers next to them; what tells the number, or 0. */
    private static void bounds(String ahead, int least, int most, String behind, int what) {
        int clauses = (int) (ahead + behind).chars().filter(c -> c == ';').count();
        for (int n : new int[] {least, least + 1, most - 1, most}) {
            Bench bench = whole(ahead + n + behind, clauses);
            if (what != 0) is("told by " + ahead + n, bench.shop.told(what), n);
        }
        for (int n : new int[] {least - 1, most + 1, most + 100, 9999}) {
            if (n >= 0) fault(ahead + n + behind, OUT, ahead.length());
        }
    }

    private static void dwellAndIdleIfNotTold() {
        Bench bench = whole("tool a 3 1; step a 7;", 2);
        is("turns without dwell", bench.shop.told(10), 21);
        is("idle", bench.shop.told(2), 10);
    }

    /** "4 ROOM: a TOOL, a STEP too many, at its first WORD." */
    private static void sixthAndSeventhTool() {
        is("six tools", whole(SIX_TOOLS, 6).shop.told(0), 6);
        whole(SIX_TOOLS + "step f 1; meet e f; idle 5;", 9);
        fault(SIX_TOOLS + "tool g 1 1;", ROOM, 66);
        fault(SIX_TOOLS + " tool", ROOM, 67);
        fault(SIX_TOOLS + "tool a 1 1;", ROOM, 66);
        fault(SIX_TOOLS + "tool 5", ROOM, 66);
        fault(SIX_TOOLS + "tools", SYNTAX, 66);
    }

    private static void seventhAndEighthStep() {
        is("seven steps", whole(TOOL + SEVEN_STEPS, 8).shop.told(1), 7);
        whole(TOOL + SEVEN_STEPS + "after 5 6; tool b 1 1; meet a b; idle 5;", 12);
        fault(TOOL + SEVEN_STEPS + "step a 1;", ROOM, 74);
        fault(TOOL + SEVEN_STEPS + "\nstep", ROOM, 75);
        fault(TOOL + SEVEN_STEPS + "step zz 0;", ROOM, 74);
        fault(TOOL + SEVEN_STEPS + "step ;", ROOM, 74);
        fault(TOOL + SEVEN_STEPS + "after 6 7;", OUT, 82);
    }

    private static final String[] TOKENS = {"tool", "a", "1", "1", ";", "tool", "b", "2", "2", ";", "step", "a", "1", ";",
        "step", "b", "3", "4", ";", "after", "0", "1", ";", "meet", "a", "b", ";", "idle", "5", ";"};

    /** "PLACE (a TOKEN's first byte; the text's length at its end)" */
    private static void textEndsBehindEachToken() {
        StringBuilder text = new StringBuilder();
        int clauses = 0;
        for (String token : TOKENS) {
            text.append(token);
            if (token.equals(";")) {
                clauses++;
                whole(text.toString(), clauses);
                whole(text + " \n", clauses);
            } else {
                fault(text.toString(), SYNTAX, text.length());
                fault(text + " \n ", SYNTAX, text.length() + 3);
            }
            text.append(' ');
        }
    }

    /** "1 SYNTAX: a TOKEN (or byte that is none, a run that is too long) with which no text goes on" */
    private static void wrongTokenBehindEachToken() {
        StringBuilder text = new StringBuilder();
        for (int n = 0; n < TOKENS.length; n++) {
            boolean isFirst = n == 0 || TOKENS[n - 1].equals(";");
            // A STEP's RISE may be followed by its DWELL or by the end of the clause.
            boolean isBehindRise = n >= 3 && TOKENS[n - 3].equals("step");
            boolean mayBeNumber = isBehindRise || Character.isDigit(TOKENS[n].charAt(0));
            boolean mayBeWord = !isFirst && Character.isLetter(TOKENS[n].charAt(0));
            boolean mayBeSemicolon = isBehindRise || TOKENS[n].equals(";");
            String ahead = text.toString();
            for (String wrong : new String[] {"!", "abcdefghi", "12345", "A", "\u00e4"}) fault(ahead + wrong, SYNTAX, ahead.length());
            if (!mayBeNumber) fault(ahead + "1 ", SYNTAX, ahead.length());
            if (!mayBeWord) fault(ahead + "zz", SYNTAX, ahead.length());
            if (!mayBeSemicolon) fault(ahead + ";", SYNTAX, ahead.length());
            text.append(TOKENS[n]).append(n % 2 == 0 ? " " : "\n ");
        }
        fault(text + ";", SYNTAX, text.length());
    }

    /** "the first come to as TOKENS are read one by one, of one TOKEN the least KIND" */
    private static void firstFaultIsTold() {
        fault(TOOL + "tool a 0 0", TWICE, 16);
        fault(TOOL + "step zz 0", UNKNOWN, 16);
        fault("tool a 0 61 !", OUT, 7);
        fault("tool a 1 61 !", OUT, 9);
        fault("meet zz zz", UNKNOWN, 5);
        fault("step zz", UNKNOWN, 5);
        fault("idle 41", OUT, 5);
        fault("idle 5; idle !", TWICE, 8);
        fault(THREE_STEPS + "after 1 0 0", OUT, 46);
        fault(THREE_STEPS + "after 1 1 0", TWICE, 46);
        fault("after 99999", SYNTAX, 6);
        fault("after 0 0", OUT, 6);
    }

    // ---- Terms I: what clauses mean

    /** "after a b: STEP b waits for STEP a, a less than b, both told by then" */
    private static void stepsOfAfter() {
        is("waits", whole(THREE_STEPS + "after 0 2;after 1 2;", 6).shop.told(32), 3);
        is("waits for none", whole(THREE_STEPS + "after 0 2;after 1 2;", 6).shop.told(30), 0);
        fault("after 0 1;", OUT, 6);
        fault(TOOL + "after 0 1;", OUT, 17);
        fault(TOOL + "step a 1; after 0 1; step a 1;", OUT, 29);
        fault(THREE_STEPS + "after 0 3;", OUT, 46);
        fault(THREE_STEPS + "after 3 4;", OUT, 44);
        fault(THREE_STEPS + "after 2 3;", OUT, 46);
        fault(THREE_STEPS + "after 2 1;", OUT, 46);
        fault(THREE_STEPS + "after 1 0;", OUT, 46);
        fault(THREE_STEPS + "after 0 1; after 1 0;", OUT, 57);
        fault(THREE_STEPS + "after 9999 1;", OUT, 44);
    }

    /** "3 TWICE: .. the second of after, of meet, whose pair was told .., or that is the first one itself" */
    private static void afterTwice() {
        fault(THREE_STEPS + "after 0 0;", TWICE, 46);
        fault(THREE_STEPS + "after 2 2;", TWICE, 46);
        fault(THREE_STEPS + "after 0 1;after 0 1;", TWICE, 56);
        fault(THREE_STEPS + "after 0 2;after 0 1;after 1 2;after 0 2", TWICE, 76);
        whole(THREE_STEPS + "after 0 1;after 0 2;after 1 2;", 7);
    }

    private static void meetTwice() {
        String three = TOOL + "tool b 1 1;tool c 1 1;";
        fault(three + "meet a a;", TWICE, 40);
        fault(three + "meet a b;meet a b;", TWICE, 49);
        fault(three + "meet a b;meet b a;", TWICE, 49);
        fault(three + "meet c a;meet b c;meet a c", TWICE, 58);
        Bench bench = whole(three + "meet a b;meet c a;meet b c;", 6);
        is("meets", bench.shop.told(40), 6);
        is("meets", bench.shop.told(41), 5);
        is("meets", bench.shop.told(42), 3);
    }

    private static void namesTwice() {
        fault(TOOL + "tool a 2 2;", TWICE, 16);
        fault(TOOL + "tool b 1 1;tool a", TWICE, 27);
        whole(TOOL + "tool aa 1 1;", 2);
    }

    private static void idleTwice() {
        fault("idle 10;idle 10;", TWICE, 8);
        fault("idle 0; idle", TWICE, 8);
        fault("idle 5;" + TOOL + "idle 6;", TWICE, 18);
    }

    /** "5 UNKNOWN: a W that should be a TOOL's name and is none" */
    private static void namesUnknown() {
        fault("step a 1;" + TOOL, UNKNOWN, 5);
        fault("step step 1;", UNKNOWN, 5);
        fault(TOOL + "step b 1;", UNKNOWN, 16);
        fault(TOOL + "step aa 1;", UNKNOWN, 16);
        fault(TOOL + "meet b a;", UNKNOWN, 16);
        fault(TOOL + "meet a b;", UNKNOWN, 18);
        fault(TOOL + "meet a b; tool b 1 1;", UNKNOWN, 18);
    }

    /** "names of TOOLS: any WORDS" */
    private static void namesAreAnyWords() {
        Bench bench = whole("tool tool 1 1;tool step 2 2;tool after 3 3;tool meet 4 4;tool idle 5 5;"
                + "step tool 1;step step 1;meet meet idle;after 0 1;idle 3;", 10);
        is("tool of step 1", bench.shop.told(21), 1);
        is("meet", bench.shop.told(43), 16);
    }

    // ---- promises 4 and 5

    /** "Of the latest part(), what 0: its FAULT's KIND, 0 without (and ahead of any), 1: its PLACE (NONE)." */
    private static void faultOfTheLatestPart() {
        Bench bench = new Bench();
        isFaultNow(bench, 0, NONE);
        is("fault", bench.part("idle 41;"), NONE);
        isFaultNow(bench, OUT, 5);
        is("no box is no part", bench.box("x"), NONE);
        is("no row is no part", bench.byRow("x"), NONE);
        is("no disc is no part", bench.tape("x").shop.old(0), NONE);
        isFaultNow(bench, OUT, 5);
        is("other fault", bench.part("idle"), NONE);
        isFaultNow(bench, SYNTAX, 4);
        is("fault at 0", bench.part("!"), NONE);
        isFaultNow(bench, SYNTAX, 0);
        is("part", bench.part("idle 40;"), 1);
        isFaultNow(bench, 0, NONE);
    }

    private static void isFaultNow(Bench bench, int kind, int place) {
        is("kind", bench.shop.fault(0), kind);
        is("place", bench.shop.fault(1), place);
        for (int what : new int[] {-1, 2, 3, Integer.MIN_VALUE, Integer.MAX_VALUE}) is("fault " + what, bench.shop.fault(what), NONE);
    }

    /** "NONE with a FAULT (it stays, all else, too)": nothing of a text with a FAULT is taken. */
    private static void partWithFaultBehindOneWithout() {
        Bench bench = Bench.with("tool a 2 3; tool b 1 1; step a 5 6; step b 7; meet a b; after 0 1; idle 4;");
        String[] faults = {"tool c 9 9; step c 9; idle 9; !", "tool a 9 0;", "idle 9; idle 9;", SIX_TOOLS + "step f 9;tool", "step a 9;"};
        for (int n = 0; n < faults.length; n++) {
            is("fault", bench.part(faults[n]), NONE);
            is("kind", bench.shop.fault(0), n + 1);
            int[] whats = {0, 1, 2, 4, 10, 11, 20, 21, 30, 31, 40, 41, 50, 51, 60, 61, 12, 42};
            int[] due = {2, 2, 4, 23, 16, 7, 0, 1, 0, 1, 2, 1, 2, 1, 3, 1, NONE, NONE};
            for (int w = 0; w < whats.length; w++) is("told " + whats[w], bench.shop.told(whats[w]), due[w]);
            is("clauses", bench.shop.count(0), 7);
            is("tape", bench.shop.count(3), 0);
            is("begin", bench.shop.begin(1), 16);
        }
    }

    /** "Without one GAUGED are none then, the latest STAGE is 0." */
    private static void partMakesAllAnew() {
        Bench bench = Bench.with("tool a 1 1; tool b 1 1; step a 1; step b 1; after 0 1; meet a b; idle 3;");
        for (int n = 0; n < 16; n++) is("gauge", bench.shop.gauge(999, 0, 0, 50), n);
        for (int n = 1; n <= 20; n++) is("right", bench.shop.right(999, 0, 40), n);
        is("full", bench.shop.gauge(999, 0, 0, 50), FULL);
        is("full", bench.shop.right(999, 0, 50), FULL);
        is("none fit", bench.shop.fit(999, 0), 0);
        is("part again", bench.part("tool b 1 1; step b 1; step b 1;"), 3);
        is("gauged", bench.shop.count(1), 0);
        is("right", bench.shop.count(2), 0);
        is("all fit", bench.shop.fit(999, 0), 5 * 61 * 9);
        is("no such one", bench.shop.right(0, 0, 0), RANGE);
        is("stage 0", bench.shop.gauge(0, 0, 1, 0), 0);
        is("stage 0", bench.shop.right(0, 0, 5), 1);
        is("no waits of the old part", bench.shop.told(31), 0);
        is("no meeting of the old part", bench.shop.told(40), 0);
        is("no idle of the old part", bench.shop.told(2), 10);
        is("the same part again", bench.part("tool b 1 1; step b 1; step b 1;"), 3);
        is("gauged none", bench.shop.count(1), 0);
    }

    // ---- promise 6

    /** "10 + k: turns of STEP k, 20 + k .., 30 + k ..; 40 + t .., 50 + t .., 60 + t ... NONE for others." */
    private static void numbersOfTold() {
        Bench bench = whole(SIX_TOOLS + SEVEN_STEPS, 13);
        for (int what = -12; what <= 90; what++) {
            int ones = Math.floorMod(what, 10);
            int tens = Math.floorDiv(what, 10);
            boolean isOne = tens == 0 && ones <= 4 || tens >= 1 && tens <= 3 && ones <= 6 || tens >= 4 && tens <= 6 && ones <= 5;
            is("told " + what, bench.shop.told(what) == NONE ? 0 : 1, isOne ? 1 : 0);
        }
        for (int what : new int[] {110, 1010, 266, 65546, Integer.MAX_VALUE, Integer.MIN_VALUE, Integer.MIN_VALUE + 10}) {
            is("told " + what, bench.shop.told(what), NONE);
        }
        is("tools", bench.shop.told(0), 6);
        is("steps", bench.shop.told(1), 7);
        is("last step's turns", bench.shop.told(16), 1);
        is("last tool's slope", bench.shop.told(65), 1);
    }

    private static void numbersOfToldWithoutAPart() {
        Bench tool = whole(TOOL, 1);
        Bench step = whole(TOOL + "step a 1;", 2);
        for (int what = 5; what <= 80; what++) {
            boolean isOfTool = what == 40 || what == 50 || what == 60;
            boolean isOfStep = what == 10 || what == 20 || what == 30;
            is("told of a tool alone " + what, tool.shop.told(what) == NONE ? 0 : 1, isOfTool ? 1 : 0);
            is("told of one step " + what, step.shop.told(what) == NONE ? 0 : 1, isOfTool || isOfStep ? 1 : 0);
        }
    }
}
