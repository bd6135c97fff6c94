import java.util.Arrays;

/**
 * A shop with a lathe whose tools are pushed by turning discs. The document (DOC.md) tells what each
 * call answers; the words in capitals there (TOOL, STEP, MARK, ..) are the words of this file.
 */
public final class DiscLathe {
    /** There is none. */
    public static final int NONE = -1;
    /** A number that can't be. */
    public static final int RANGE = -2;
    /** No room. */
    public static final int FULL = -3;
    /** Not as things are. */
    public static final int STATE = -4;

    // cause() and tells() may answer -2 for a CAUSE that is, so what can't be has numbers of its own there.
    private static final int NO_CAUSE = -9;
    private static final int NO_TELLING = -9999;

    private static final int TAPE_ROOM = 800;
    private static final int FEED_BYTES = 20;
    private static final int MOST_TOOLS = 6;
    private static final int MOST_STEPS = 7;
    private static final int USUAL_IDLE = 10;
    private static final int MOST_SLOPE = 60;
    private static final int MARKS = 100;
    private static final int OLD_DISCS = 4;
    private static final int MOST_HEIGHT = 999;
    private static final int MOST_BASE = 500;
    private static final int MOST_PRICE = 99999;
    private static final int MOST_WHEELS = 10;
    private static final int MOST_RATIO = 9999;
    private static final int MOST_WEAR = 9;
    private static final int LAST_STAGE = 999;
    private static final int PARTS = 40;
    private static final int MOST_OFF = 99;
    private static final int MOST_GAUGED = 16;
    private static final int MOST_RIGHT = 20;
    private static final int MOST_HEAT = 2;
    private static final int HEATS = 5;
    private static final int FROMS = 12;
    private static final int WEARS = 5;
    private static final int DULLS = 4;

    private final Tape tape;
    private final Part part;
    private final PartReader reader;
    private final Plan plan;
    private final Discs discs;
    private final OldDiscs oldDiscs;
    private final Wheels wheels;
    private final Gauged gauged;
    private final Cause cause;
    private final Fits fits;
    private final NextPick nextPick;

    public DiscLathe() {
        tape = new Tape();
        part = new Part();
        reader = new PartReader(tape);
        plan = new Plan(part);
        discs = new Discs(part, plan);
        oldDiscs = new OldDiscs(part, discs);
        wheels = new Wheels();
        gauged = new Gauged();
        cause = new Cause(part);
        fits = new Fits(part, gauged);
        nextPick = new NextPick(part, fits);
    }

    private static boolean isWithin(long value, long least, long most) {
        return value >= least && value <= most;
    }

    private static boolean hasBit(int bits, int number) {
        return (bits >> number & 1) != 0;
    }

    private boolean isTool(int t) {
        return isWithin(t, 0, part.tools - 1);
    }

    private boolean isStep(int k) {
        return isWithin(k, 0, part.steps - 1);
    }

    private static boolean isMark(int m) {
        return isWithin(m, 0, MARKS - 1);
    }

    private static boolean isOldDisc(int k) {
        return isWithin(k, 0, OLD_DISCS - 1);
    }

    private static boolean isStage(int stage) {
        return isWithin(stage, 0, LAST_STAGE);
    }

    private static boolean isPartNumber(int i) {
        return isWithin(i, 0, PARTS - 1);
    }

    private static boolean isOff(int off) {
        return isWithin(off, -MOST_OFF, MOST_OFF);
    }

    private static boolean isLimit(int limit) {
        return isWithin(limit, 0, MOST_OFF);
    }

    // ---- the tape

    public int feed(int a, int b, int c, int d, int e) {
        if (tape.length + FEED_BYTES > TAPE_ROOM) {
            return FULL;
        }
        tape.append(a);
        tape.append(b);
        tape.append(c);
        tape.append(d);
        tape.append(e);
        return tape.length;
    }

    public int end(int n) {
        if (!isWithin(n, 0, tape.length)) {
            return NONE;
        }
        tape.length = n;
        return n;
    }

    // ---- the part and its plan

    public int part() {
        boolean isPart = reader.readText();
        tape.length = 0;
        if (!isPart) {
            return NONE;
        }
        part.become(reader.draft);
        plan.layOut();
        discs.layOut();
        oldDiscs.forgetPart();
        gauged.clear();
        fits.forget();
        return part.clauses;
    }

    public int fault(int what) {
        switch (what) {
            case 0:
                return reader.faultKind;
            case 1:
                return reader.faultPlace;
            default:
                return NONE;
        }
    }

    public int told(int what) {
        switch (what) {
            case 0:
                return part.tools;
            case 1:
                return part.steps;
            case 2:
                return part.idle;
            case 3:
                return wheels.size;
            case 4:
                return plan.length;
            default:
                return what < 10 || what > 69 ? NONE : toldOfOne(what / 10, what % 10);
        }
    }

    private int toldOfOne(int about, int number) {
        if (about <= 3 ? !isStep(number) : !isTool(number)) {
            return NONE;
        }
        switch (about) {
            case 1:
                return part.turnsOf(number);
            case 2:
                return part.toolOf[number];
            case 3:
                return part.waits[number];
            case 4:
                return part.meets[number];
            case 5:
                return part.feed[number];
            case 6:
                return part.slope[number];
            default:
                return NONE;
        }
    }

    public int begin(int k) {
        return isStep(k) ? plan.begin[k] : RANGE;
    }

    public int held(int k) {
        if (!isStep(k)) {
            return RANGE;
        }
        return plan.isHeld(k) ? 1 : 0;
    }

    public int byRow() {
        int answer = plan.lengthByRow(tape);
        tape.length = 0;
        return answer;
    }

    // ---- discs

    public int height(int t, int m) {
        return isTool(t) && isMark(m) ? discs.discHeight(t, m) : RANGE;
    }

    public int lobe(int k, int what) {
        if (!isStep(k)) {
            return RANGE;
        }
        switch (what) {
            case 0:
                return discs.markA[k];
            case 1:
                return discs.markC[k];
            case 2:
                return discs.markB[k];
            case 3:
                return discs.isSteep(k) ? 1 : 0;
            case 4:
                return discs.isLate(k) ? 1 : 0;
            default:
                return RANGE;
        }
    }

    public int wrong(int what) {
        if (what != 0 && what != 1) {
            return NONE;
        }
        int bits = 0;
        for (int k = 0; k < part.steps; k++) {
            if (what == 0 ? discs.isSteep(k) : discs.isLate(k)) {
                bits |= 1 << k;
            }
        }
        return bits;
    }

    public int slope(int t) {
        return isTool(t) ? discs.leastSlope(t) : RANGE;
    }

    // ---- old discs

    public int old(int k) {
        int answer = isOldDisc(k) ? oldDiscs.readRow(k, tape) : RANGE;
        tape.length = 0;
        return answer;
    }

    public int was(int k, int m) {
        return isOldDisc(k) && isMark(m) ? oldDiscs.heights[k][m] : RANGE;
    }

    public int keep(int t, int k, int base) {
        if (!isTool(t) || !isOldDisc(k) || !isWithin(base, 0, MOST_BASE)) {
            return RANGE;
        }
        return oldDiscs.putAway(t, k, base);
    }

    public int file(int t, int k, int what) {
        if (!isTool(t) || !isOldDisc(k)) {
            return RANGE;
        }
        switch (what) {
            case 0:
                return oldDiscs.bestTurn(t, k);
            case 1:
                return oldDiscs.bestBase(t, k);
            case 2:
                return oldDiscs.filedOff(t, k);
            default:
                return RANGE;
        }
    }

    public int share(int price) {
        return isWithin(price, 0, MOST_PRICE) ? oldDiscs.shareOut(price) : RANGE;
    }

    public int shared(int t) {
        return isTool(t) ? oldDiscs.gets[t] : NONE;
    }

    // ---- wheels

    public int box() {
        int answer = wheels.readBox(tape);
        tape.length = 0;
        return answer;
    }

    public int teeth(int i) {
        return isWithin(i, 0, wheels.size - 1) ? wheels.teethOf[i] : RANGE;
    }

    public int train(int p, int q, int without) {
        boolean isWheel = without == NONE || isWithin(without, 0, wheels.size - 1);
        if (!isWheel || !isRatio(p, q)) {
            return RANGE;
        }
        return wheels.setTrain(p, q, without);
    }

    private static boolean isRatio(int p, int q) {
        return isWithin(p, 1, MOST_RATIO) && isWithin(q, 1, MOST_RATIO);
    }

    public int wheel(int i) {
        return isWithin(i, 0, wheels.trainSize - 1) ? wheels.trainRow[i] : NONE;
    }

    public long off(boolean isLower) {
        return isLower ? wheels.offLower : wheels.offUpper;
    }

    public int spare(int p, int q) {
        return isRatio(p, q) ? wheels.countExact(p, q) : RANGE;
    }

    public long worn(int i, int n) {
        if (!isWithin(n, 1, MOST_WEAR)) {
            return RANGE;
        }
        if (wheels.trainSize == 0) {
            return STATE;
        }
        if (!isWithin(i, 0, wheels.trainSize - 1) || wheels.trainTeeth[i] - n < 1) {
            return RANGE;
        }
        return wheels.changeByWear(i, n);
    }

    // ---- gauged

    public int gauge(int told, int i, int s, int off) {
        if (!isStage(told) || told < gauged.latestStage || !isStep(s) || !isPartNumber(i) || !isOff(off)) {
            return RANGE;
        }
        fits.forget();
        return gauged.add(told, i, s, off);
    }

    public int right(int told, int k, int off) {
        boolean isGauged = isWithin(k, 0, gauged.size - 1);
        if (!isStage(told) || told < gauged.latestStage || !isGauged || !isOff(off)) {
            return RANGE;
        }
        fits.forget();
        return gauged.putRight(told, k, off);
    }

    public int fit(int known, int what) {
        if (!isStage(known) || what != 0 && what != 1) {
            return RANGE;
        }
        fits.view(known);
        return what == 0 ? fits.total : fits.least;
    }

    public int cause(int n, int what) {
        if (!cause.load(n)) {
            return NO_CAUSE;
        }
        switch (what) {
            case 0:
                return cause.heat;
            case 1:
                return cause.wornTool;
            case 2:
                return cause.from;
            case 3:
                return cause.wornBy;
            case 4:
                return cause.dullStep;
            case 5:
                return cause.dullBy;
            default:
                return NO_CAUSE;
        }
    }

    public int tells(int n, int i, int s) {
        if (!isPartNumber(i) || !isStep(s) || !cause.load(n)) {
            return NO_TELLING;
        }
        return cause.offBy(i, s);
    }

    public int surelyWorn(int t, int known) {
        if (!isTool(t) || !isStage(known)) {
            return RANGE;
        }
        fits.view(known);
        return fits.surely(fits.countWorn(t));
    }

    public int surelyDull(int s, int known) {
        if (!isStep(s) || !isStage(known)) {
            return RANGE;
        }
        fits.view(known);
        return fits.surely(fits.countDull(s));
    }

    public int next() {
        fits.view(LAST_STAGE);
        return nextPick.pick();
    }

    public int halt(int limit, int known) {
        if (!isLimit(limit) || !isStage(known)) {
            return RANGE;
        }
        fits.view(known);
        return fits.firstBeyond(limit);
    }

    public int bin(int i, int limit, int known) {
        if (!isPartNumber(i) || !isLimit(limit) || !isStage(known)) {
            return RANGE;
        }
        fits.view(known);
        return cause.load(fits.least) ? cause.binOf(i, limit) : NONE;
    }

    public int count(int what) {
        switch (what) {
            case 0:
                return part.clauses;
            case 1:
                return gauged.size;
            case 2:
                return gauged.rights;
            case 3:
                return tape.length;
            case 4:
                return part.causes();
            default:
                return NONE;
        }
    }

    /** THE TAPE, and the TOKENS on it one by one. */
    private static final class Tape {
        static final int AT_END = 0;
        static final int WORD = 1;
        static final int NUMBER = 2;
        static final int SEMICOLON = 3;
        static final int STRANGE = 4;

        private static final int WORD_ROOM = 8;
        private static final int NUMBER_ROOM = 4;

        private final byte[] bytes = new byte[TAPE_ROOM];
        private int cursor = 0;
        int length = 0;
        int kind = AT_END;
        int place = 0;
        // A WORD's value is its letters as digits to the base 27: no two WORDS have the same.
        long value = 0;

        void append(int four) {
            for (int shift = 24; shift >= 0 && length < TAPE_ROOM; shift -= 8) {
                bytes[length] = (byte) (four >>> shift);
                length++;
            }
        }

        int byteAt(int i) {
            return i >= 0 && i < TAPE_ROOM && i < length ? bytes[i] & 255 : 0;
        }

        void rewind() {
            cursor = 0;
        }

        void advance() {
            while (cursor < length && isBlank(byteAt(cursor))) {
                cursor++;
            }
            place = cursor;
            value = 0;
            if (cursor >= length) {
                kind = AT_END;
                return;
            }
            int first = byteAt(cursor);
            if (isLetter(first)) {
                readWord();
            } else if (isDigit(first)) {
                readNumber();
            } else {
                kind = first == ';' ? SEMICOLON : STRANGE;
                cursor++;
            }
        }

        private void readWord() {
            while (cursor < length && isLetter(byteAt(cursor))) {
                value = value * 27 + byteAt(cursor) - 'a' + 1;
                cursor++;
            }
            kind = cursor - place > WORD_ROOM ? STRANGE : WORD;
        }

        private void readNumber() {
            while (cursor < length && isDigit(byteAt(cursor))) {
                value = value * 10 + byteAt(cursor) - '0';
                cursor++;
            }
            kind = cursor - place > NUMBER_ROOM ? STRANGE : NUMBER;
        }

        private static boolean isBlank(int sign) {
            return sign == ' ' || sign == '\n';
        }

        private static boolean isLetter(int sign) {
            return sign >= 'a' && sign <= 'z';
        }

        private static boolean isDigit(int sign) {
            return sign >= '0' && sign <= '9';
        }
    }

    /** What a text tells: TOOLS, STEPS, who waits, who meets. */
    private static final class Part {
        int clauses = 0;
        int tools = 0;
        int steps = 0;
        int idle = USUAL_IDLE;
        private final long[] names = new long[MOST_TOOLS];
        final int[] feed = new int[MOST_TOOLS];
        final int[] slope = new int[MOST_TOOLS];
        final int[] meets = new int[MOST_TOOLS];
        final int[] toolOf = new int[MOST_STEPS];
        final int[] rise = new int[MOST_STEPS];
        final int[] dwell = new int[MOST_STEPS];
        final int[] waits = new int[MOST_STEPS];

        void clear() {
            clauses = 0;
            tools = 0;
            steps = 0;
            idle = USUAL_IDLE;
        }

        void become(Part other) {
            clauses = other.clauses;
            tools = other.tools;
            steps = other.steps;
            idle = other.idle;
            System.arraycopy(other.names, 0, names, 0, MOST_TOOLS);
            System.arraycopy(other.feed, 0, feed, 0, MOST_TOOLS);
            System.arraycopy(other.slope, 0, slope, 0, MOST_TOOLS);
            System.arraycopy(other.meets, 0, meets, 0, MOST_TOOLS);
            System.arraycopy(other.toolOf, 0, toolOf, 0, MOST_STEPS);
            System.arraycopy(other.rise, 0, rise, 0, MOST_STEPS);
            System.arraycopy(other.dwell, 0, dwell, 0, MOST_STEPS);
            System.arraycopy(other.waits, 0, waits, 0, MOST_STEPS);
        }

        int toolNamed(long name) {
            for (int t = 0; t < tools; t++) {
                if (names[t] == name) {
                    return t;
                }
            }
            return NONE;
        }

        void addTool(long name, int itsFeed, int itsSlope) {
            if (tools >= MOST_TOOLS) {
                return;
            }
            names[tools] = name;
            feed[tools] = itsFeed;
            slope[tools] = itsSlope;
            meets[tools] = 0;
            tools++;
        }

        void addStep(int tool, int itsRise, int itsDwell) {
            if (steps >= MOST_STEPS) {
                return;
            }
            toolOf[steps] = tool;
            rise[steps] = itsRise;
            dwell[steps] = itsDwell;
            waits[steps] = 0;
            steps++;
        }

        int risingTurns(int k) {
            return rise[k] * feed[toolOf[k]];
        }

        int turnsOf(int k) {
            return risingTurns(k) + dwell[k];
        }

        /** The other STEPS, as bits, that may not be at work in one turn with STEP k. */
        int apartFrom(int k) {
            int bits = 0;
            for (int j = 0; j < steps; j++) {
                boolean isApart = toolOf[j] == toolOf[k] || hasBit(meets[toolOf[k]], toolOf[j]);
                if (j != k && isApart) {
                    bits |= 1 << j;
                }
            }
            return bits;
        }

        int wornWays() {
            return 1 + tools * FROMS * WEARS;
        }

        int dullWays() {
            return 1 + steps * DULLS;
        }

        int causes() {
            return HEATS * wornWays() * dullWays();
        }
    }

    /** Reads THE TAPE as a PART, up to the first FAULT. */
    private static final class PartReader {
        private static final int SYNTAX = 1;
        private static final int OUT_OF_BOUNDS = 2;
        private static final int TWICE = 3;
        private static final int ROOM = 4;
        private static final int UNKNOWN = 5;

        // The clauses' first WORDS, by the values that THE TAPE gives WORDS.
        private static final long TOOL = ((20L * 27 + 15) * 27 + 15) * 27 + 12;
        private static final long STEP = ((19L * 27 + 20) * 27 + 5) * 27 + 16;
        private static final long AFTER = (((1L * 27 + 6) * 27 + 20) * 27 + 5) * 27 + 18;
        private static final long MEET = ((13L * 27 + 5) * 27 + 5) * 27 + 20;
        private static final long IDLE = ((9L * 27 + 4) * 27 + 12) * 27 + 5;

        private final Tape tape;
        final Part draft = new Part();
        private boolean isIdleTold = false;
        int faultKind = 0;
        int faultPlace = NONE;

        PartReader(Tape tape) {
            this.tape = tape;
        }

        boolean readText() {
            faultKind = 0;
            faultPlace = NONE;
            isIdleTold = false;
            draft.clear();
            tape.rewind();
            for (int clause = 0; clause <= TAPE_ROOM; clause++) {
                tape.advance();
                if (tape.kind == Tape.AT_END) {
                    return true;
                }
                if (!readClause()) {
                    return false;
                }
                draft.clauses++;
            }
            return false;
        }

        private boolean refuse(int kind) {
            faultKind = kind;
            faultPlace = tape.place;
            return false;
        }

        private boolean readClause() {
            if (tape.kind != Tape.WORD) {
                return refuse(SYNTAX);
            }
            if (tape.value == TOOL) {
                return readTool();
            }
            if (tape.value == STEP) {
                return readStep();
            }
            if (tape.value == AFTER) {
                return readAfter();
            }
            if (tape.value == MEET) {
                return readMeet();
            }
            if (tape.value == IDLE) {
                return readIdle();
            }
            return refuse(SYNTAX);
        }

        private boolean readTool() {
            if (draft.tools >= MOST_TOOLS) {
                return refuse(ROOM);
            }
            if (!advanceTo(Tape.WORD)) {
                return false;
            }
            long name = tape.value;
            if (draft.toolNamed(name) != NONE) {
                return refuse(TWICE);
            }
            if (!advanceToNumber(1, 50)) {
                return false;
            }
            int feed = (int) tape.value;
            if (!advanceToNumber(1, MOST_SLOPE)) {
                return false;
            }
            draft.addTool(name, feed, (int) tape.value);
            return advanceTo(Tape.SEMICOLON);
        }

        private boolean readStep() {
            if (draft.steps >= MOST_STEPS) {
                return refuse(ROOM);
            }
            if (!advanceToToolName()) {
                return false;
            }
            int tool = draft.toolNamed(tape.value);
            if (!advanceToNumber(1, 400)) {
                return false;
            }
            int rise = (int) tape.value;
            tape.advance();
            if (tape.kind != Tape.NUMBER) {
                draft.addStep(tool, rise, 0);
                return stayOn(Tape.SEMICOLON);
            }
            if (!stayWithin(0, 99)) {
                return false;
            }
            draft.addStep(tool, rise, (int) tape.value);
            return advanceTo(Tape.SEMICOLON);
        }

        private boolean readAfter() {
            if (!advanceToNumber(0, draft.steps - 1)) {
                return false;
            }
            int first = (int) tape.value;
            if (!advanceToNumber(first, draft.steps - 1)) {
                return false;
            }
            int second = (int) tape.value;
            if (second == first || hasBit(draft.waits[second], first)) {
                return refuse(TWICE);
            }
            draft.waits[second] |= 1 << first;
            return advanceTo(Tape.SEMICOLON);
        }

        private boolean readMeet() {
            if (!advanceToToolName()) {
                return false;
            }
            int first = draft.toolNamed(tape.value);
            if (!advanceToToolName()) {
                return false;
            }
            int second = draft.toolNamed(tape.value);
            if (second == first || hasBit(draft.meets[first], second)) {
                return refuse(TWICE);
            }
            draft.meets[first] |= 1 << second;
            draft.meets[second] |= 1 << first;
            return advanceTo(Tape.SEMICOLON);
        }

        private boolean readIdle() {
            if (isIdleTold) {
                return refuse(TWICE);
            }
            isIdleTold = true;
            if (!advanceToNumber(0, 40)) {
                return false;
            }
            draft.idle = (int) tape.value;
            return advanceTo(Tape.SEMICOLON);
        }

        private boolean advanceTo(int kind) {
            tape.advance();
            return stayOn(kind);
        }

        private boolean stayOn(int kind) {
            return tape.kind == kind || refuse(SYNTAX);
        }

        private boolean advanceToNumber(int least, int most) {
            tape.advance();
            return stayOn(Tape.NUMBER) && stayWithin(least, most);
        }

        private boolean stayWithin(int least, int most) {
            return isWithin(tape.value, least, most) || refuse(OUT_OF_BOUNDS);
        }

        private boolean advanceToToolName() {
            tape.advance();
            return stayOn(Tape.WORD) && (draft.toolNamed(tape.value) != NONE || refuse(UNKNOWN));
        }
    }

    /**
     * The BEST PLAN. Every plan that can't be pushed earlier comes from putting the STEPS in by rising
     * begins, each as soon as those already in let it; so all such rows are tried, but for those that
     * can't beat the best one so far.
     */
    private static final class Plan {
        private final Part part;
        final int[] begin = new int[MOST_STEPS];
        int length = 0;
        private boolean isFound = false;
        private final int[] turns = new int[MOST_STEPS];
        private final int[] tail = new int[MOST_STEPS];
        private final int[] apart = new int[MOST_STEPS];
        // By STEP, as bits: STEPS with it of which no two are ever at work in one turn.
        private final int[] queue = new int[MOST_STEPS];
        private final int[] trial = new int[MOST_STEPS];
        private final int[] soonest = new int[MOST_STEPS];
        // By how many STEPS are in: when each of the others may begin as far as those go.
        private final int[][] ready = new int[MOST_STEPS + 1][MOST_STEPS];

        Plan(Part part) {
            this.part = part;
        }

        void layOut() {
            for (int k = part.steps - 1; k >= 0; k--) {
                turns[k] = part.turnsOf(k);
                apart[k] = part.apartFrom(k);
                ready[0][k] = 0;
                tail[k] = turns[k] + longestTailBehind(k);
            }
            for (int k = 0; k < part.steps; k++) {
                queue[k] = queueWith(k);
            }
            isFound = false;
            length = 0;
            putIn(0, 0, NONE, 0);
        }

        private int longestTailBehind(int k) {
            int longest = 0;
            for (int j = k + 1; j < part.steps; j++) {
                if (hasBit(part.waits[j], k)) {
                    longest = Math.max(longest, tail[j]);
                }
            }
            return longest;
        }

        private int queueWith(int k) {
            int bits = 1 << k;
            int common = neverWith(k);
            for (int j = 0; j < part.steps; j++) {
                if (hasBit(common, j)) {
                    bits |= 1 << j;
                    common &= neverWith(j);
                }
            }
            return bits;
        }

        private int neverWith(int k) {
            int bits = apart[k] | part.waits[k];
            for (int j = k + 1; j < part.steps; j++) {
                if (hasBit(part.waits[j], k)) {
                    bits |= 1 << j;
                }
            }
            return bits;
        }

        private void putIn(int depth, int placed, int last, int latest) {
            if (depth > MOST_STEPS || isFound && !canBeat(depth, placed, last, latest)) {
                return;
            }
            if (depth >= part.steps) {
                System.arraycopy(trial, 0, begin, 0, MOST_STEPS);
                length = latest;
                isFound = true;
                return;
            }
            for (int k = 0; k < part.steps; k++) {
                if (hasBit(placed, k) || (part.waits[k] & ~placed) != 0 || isAhead(k, ready[depth][k], last)) {
                    continue;
                }
                trial[k] = ready[depth][k];
                int itsEnd = trial[k] + turns[k];
                holdBack(depth, k, itsEnd);
                putIn(depth + 1, placed | 1 << k, k, Math.max(latest, itsEnd));
            }
        }

        /** One plan comes by many rows; only that by rising begins, alike ones by number, is followed. */
        private boolean isAhead(int k, int start, int last) {
            return last != NONE && (start < trial[last] || start == trial[last] && k < last);
        }

        private void holdBack(int depth, int k, int itsEnd) {
            for (int j = 0; j < part.steps; j++) {
                boolean isHeldBack = hasBit(apart[k], j) || hasBit(part.waits[j], k);
                ready[depth + 1][j] = isHeldBack ? Math.max(ready[depth][j], itsEnd) : ready[depth][j];
            }
        }

        private boolean canBeat(int depth, int placed, int last, int latest) {
            int bound = latest;
            for (int k = 0; k < part.steps; k++) {
                soonest[k] = hasBit(placed, k) ? trial[k] : soonestOf(k, depth, placed, last);
                if (!hasBit(placed, k)) {
                    bound = Math.max(bound, soonest[k] + tail[k]);
                }
            }
            for (int k = 0; k < part.steps && bound <= length; k++) {
                bound = Math.max(bound, queueBound(queue[k] & ~placed));
            }
            if (bound != length) {
                return bound < length;
            }
            for (int k = 0; k < part.steps; k++) {
                if (soonest[k] != begin[k]) {
                    return soonest[k] < begin[k];
                }
            }
            return false;
        }

        private int soonestOf(int k, int depth, int placed, int last) {
            int soon = last == NONE ? ready[depth][k] : Math.max(ready[depth][k], trial[last]);
            for (int j = 0; j < k; j++) {
                if (hasBit(part.waits[k], j) && !hasBit(placed, j)) {
                    soon = Math.max(soon, soonest[j] + turns[j]);
                }
            }
            return soon;
        }

        /** STEPS of a queue are done one behind the other, whatever their row. */
        private int queueBound(int waiting) {
            int first = NONE;
            int work = 0;
            for (int k = 0; k < part.steps; k++) {
                if (hasBit(waiting, k)) {
                    first = first == NONE ? soonest[k] : Math.min(first, soonest[k]);
                    work += turns[k];
                }
            }
            return work == 0 ? 0 : first + work;
        }

        boolean isHeld(int k) {
            int itsEnd = begin[k] + turns[k];
            if (itsEnd >= length) {
                return true;
            }
            for (int j = 0; j < part.steps; j++) {
                boolean isInTheWay = hasBit(apart[k], j) || hasBit(part.waits[j], k);
                if (isInTheWay && begin[j] == itsEnd) {
                    return true;
                }
            }
            return false;
        }

        int lengthByRow(Tape tape) {
            if (tape.length != part.steps) {
                return NONE;
            }
            int placed = 0;
            int latest = 0;
            for (int n = 0; n < part.steps; n++) {
                int k = tape.byteAt(n) - '0';
                if (!isWithin(k, 0, part.steps - 1) || hasBit(placed, k) || (part.waits[k] & ~placed) != 0) {
                    return NONE;
                }
                trial[k] = firstGap(k, placed);
                latest = Math.max(latest, trial[k] + turns[k]);
                placed |= 1 << k;
            }
            return latest;
        }

        private int firstGap(int k, int placed) {
            int start = 0;
            for (int j = 0; j < part.steps; j++) {
                if (hasBit(part.waits[k], j)) {
                    start = Math.max(start, trial[j] + turns[j]);
                }
            }
            // Each round but the last goes behind one STEP more.
            for (int round = 0; round < part.steps; round++) {
                start = behindOneInTheWay(k, placed, start);
            }
            return start;
        }

        private int behindOneInTheWay(int k, int placed, int start) {
            for (int j = 0; j < part.steps; j++) {
                boolean isApart = hasBit(placed, j) && hasBit(apart[k], j);
                if (isApart && trial[j] < start + turns[k] && trial[j] + turns[j] > start) {
                    return trial[j] + turns[j];
                }
            }
            return start;
        }
    }

    /** THE DISCS of the BEST PLAN. */
    private static final class Discs {
        private final Part part;
        private final Plan plan;
        final int[] markA = new int[MOST_STEPS];
        final int[] markC = new int[MOST_STEPS];
        final int[] markB = new int[MOST_STEPS];

        Discs(Part part, Plan plan) {
            this.part = part;
            this.plan = plan;
        }

        void layOut() {
            for (int k = 0; k < part.steps; k++) {
                markA[k] = markOf(plan.begin[k]);
                markC[k] = markOf(plan.begin[k] + part.risingTurns(k));
                markB[k] = markOf(plan.begin[k] + part.turnsOf(k));
            }
        }

        private int markOf(int turn) {
            return plan.length <= 0 ? 0 : turn * (MARKS - part.idle) / plan.length;
        }

        int stepHeight(int k, int m) {
            int behind = m >= markA[k] ? m - markA[k] : m - markA[k] + MARKS;
            int rising = markC[k] - markA[k];
            int up = markB[k] - markA[k];
            if (rising > 0 && behind < rising) {
                return part.rise[k] * behind / rising;
            }
            if (behind <= up) {
                return part.rise[k];
            }
            return Math.max(0, part.rise[k] - part.slope[part.toolOf[k]] * (behind - up));
        }

        int discHeight(int t, int m) {
            int highest = 0;
            for (int k = 0; k < part.steps; k++) {
                if (part.toolOf[k] == t) {
                    highest = Math.max(highest, stepHeight(k, m));
                }
            }
            return highest;
        }

        boolean isSteep(int k) {
            return part.rise[k] > part.slope[part.toolOf[k]] * (markC[k] - markA[k]);
        }

        boolean isLate(int k) {
            for (int j = 0; j < part.steps; j++) {
                if (j != k && part.toolOf[j] == part.toolOf[k] && stepHeight(j, markA[k]) > 0) {
                    return true;
                }
            }
            return false;
        }

        int leastSlope(int t) {
            int least = 1;
            for (int k = 0; k < part.steps; k++) {
                if (part.toolOf[k] != t) {
                    continue;
                }
                int rising = markC[k] - markA[k];
                if (rising <= 0) {
                    return NONE;
                }
                least = Math.max(least, (part.rise[k] + rising - 1) / rising);
            }
            return least > MOST_SLOPE ? NONE : least;
        }
    }

    /** OLD DISCS, what can be FILED from them, and who gets which. */
    private static final class OldDiscs {
        private static final int ROW_BYTES = 2 * MARKS;
        private static final int UNKNOWN = -2;

        private final Part part;
        private final Discs discs;
        final int[][] heights = new int[OLD_DISCS][MARKS];
        final int[] gets = new int[MOST_TOOLS];
        private final int[] wanted = new int[MARKS];
        // BEST TURNS are dear and asked for again: kept until the PART or the OLD DISC changes.
        private final int[][] turns = new int[MOST_TOOLS][OLD_DISCS];
        private final int[][] bases = new int[MOST_TOOLS][OLD_DISCS];
        private final int[][] sums = new int[MOST_TOOLS][OLD_DISCS];
        private final int[] choice = new int[MOST_TOOLS];
        private int bestSum = 0;

        OldDiscs(Part part, Discs discs) {
            this.part = part;
            this.discs = discs;
            forgetPart();
        }

        void forgetPart() {
            Arrays.fill(gets, NONE);
            for (int k = 0; k < OLD_DISCS; k++) {
                forgetTurns(k);
            }
        }

        private void forgetTurns(int k) {
            for (int t = 0; t < MOST_TOOLS; t++) {
                turns[t][k] = UNKNOWN;
            }
        }

        int readRow(int k, Tape tape) {
            if (tape.length != ROW_BYTES) {
                return NONE;
            }
            for (int m = 0; m < MARKS; m++) {
                if (!isWithin(heightOn(tape, m), 0, MOST_HEIGHT)) {
                    return NONE;
                }
            }
            for (int m = 0; m < MARKS; m++) {
                heights[k][m] = heightOn(tape, m);
            }
            forgetTurns(k);
            return 1;
        }

        private static int heightOn(Tape tape, int m) {
            return 100 * tape.byteAt(2 * m) - 4800 + tape.byteAt(2 * m + 1) - 48;
        }

        int putAway(int t, int k, int base) {
            int highest = 0;
            for (int m = 0; m < MARKS; m++) {
                heights[k][m] = discs.discHeight(t, m) + base;
                highest = Math.max(highest, heights[k][m]);
            }
            forgetTurns(k);
            return highest;
        }

        int bestTurn(int t, int k) {
            findTurn(t, k);
            return turns[t][k];
        }

        int bestBase(int t, int k) {
            findTurn(t, k);
            return turns[t][k] == NONE ? NONE : bases[t][k];
        }

        int filedOff(int t, int k) {
            findTurn(t, k);
            return turns[t][k] == NONE ? NONE : sums[t][k];
        }

        /** All turns of one OLD DISC have the same sum of heights: the least FILED OFF has the greatest base. */
        private void findTurn(int t, int k) {
            if (turns[t][k] != UNKNOWN) {
                return;
            }
            int surplus = 0;
            for (int m = 0; m < MARKS; m++) {
                wanted[m] = discs.discHeight(t, m);
                surplus += heights[k][m] - wanted[m];
            }
            int turn = NONE;
            int base = NONE;
            for (int r = 0; r < MARKS; r++) {
                int its = baseAt(heights[k], r, base);
                if (its > base) {
                    base = its;
                    turn = r;
                }
            }
            turns[t][k] = turn;
            bases[t][k] = base;
            sums[t][k] = surplus - MARKS * base;
        }

        /** The greatest base at a turn, if it is above one; else some number that isn't. */
        private int baseAt(int[] row, int r, int above) {
            int base = MOST_HEIGHT;
            int from = r;
            for (int m = 0; m < MARKS && base > above; m++) {
                base = Math.min(base, row[from] - wanted[m]);
                from = from + 1 < MARKS ? from + 1 : 0;
            }
            return base;
        }

        int shareOut(int price) {
            // Above what new DISCS for all cost, so that some row is always taken.
            bestSum = price * MOST_TOOLS + 1;
            choose(0, 0, 0, price);
            return bestSum;
        }

        /** Rows come the least first, so that only a lesser sum takes the place of one. */
        private void choose(int t, int used, int sum, int price) {
            if (t > MOST_TOOLS || sum >= bestSum) {
                return;
            }
            if (t >= part.tools) {
                bestSum = sum;
                System.arraycopy(choice, 0, gets, 0, MOST_TOOLS);
                return;
            }
            choice[t] = NONE;
            if (!hasStep(t)) {
                choose(t + 1, used, sum, price);
                return;
            }
            for (int k = 0; k < OLD_DISCS; k++) {
                if (!hasBit(used, k) && bestTurn(t, k) != NONE) {
                    choice[t] = k;
                    choose(t + 1, used | 1 << k, sum + sums[t][k], price);
                }
            }
            choice[t] = NONE;
            choose(t + 1, used, sum + price, price);
        }

        private boolean hasStep(int t) {
            for (int k = 0; k < part.steps; k++) {
                if (part.toolOf[k] == t) {
                    return true;
                }
            }
            return false;
        }
    }

    /** THE BOX and the TRAIN that is. */
    private static final class Wheels {
        private static final int LEAST_TEETH = 10;
        private static final int MOST_TEETH = 200;
        private static final int PAIR = 2;
        private static final int TWO_PAIRS = 4;
        private static final long MILLION = 1000000L;

        final int[] teethOf = new int[MOST_WHEELS];
        int size = 0;
        private final int[] draft = new int[MOST_WHEELS];

        final int[] trainRow = new int[TWO_PAIRS];
        final int[] trainTeeth = new int[TWO_PAIRS];
        int trainSize = 0;
        long offUpper = 0;
        long offLower = NONE;

        private final int[] row = new int[TWO_PAIRS];
        private final int[] nearRow = new int[TWO_PAIRS];
        private int nearSize = 0;
        private long nearAway = 0;
        private long nearLower = 1;
        private int exact = 0;
        private long p = 1;
        private long q = 1;

        int readBox(Tape tape) {
            tape.rewind();
            for (int n = 0; n <= MOST_WHEELS; n++) {
                tape.advance();
                if (tape.kind == Tape.AT_END) {
                    System.arraycopy(draft, 0, teethOf, 0, n);
                    size = n;
                    return n;
                }
                boolean isWheel = tape.kind == Tape.NUMBER && isWithin(tape.value, LEAST_TEETH, MOST_TEETH);
                if (n >= MOST_WHEELS || !isWheel) {
                    return NONE;
                }
                draft[n] = (int) tape.value;
            }
            return NONE;
        }

        int setTrain(int upper, int lower, int without) {
            weighAll(upper, lower, without);
            if (nearSize == 0) {
                return NONE;
            }
            trainSize = nearSize;
            for (int n = 0; n < TWO_PAIRS; n++) {
                boolean isIn = n < nearSize;
                trainRow[n] = isIn ? nearRow[n] : NONE;
                trainTeeth[n] = isIn ? teethOf[nearRow[n]] : 1;
            }
            setOff();
            return trainSize;
        }

        private void setOff() {
            long upper = (long) trainTeeth[0] * trainTeeth[2];
            long lower = (long) trainTeeth[1] * trainTeeth[3];
            long difference = upper * q - p * lower;
            long common = Math.max(1, greatestCommon(Math.abs(difference), lower * q));
            offUpper = difference / common;
            offLower = lower * q / common;
        }

        private static long greatestCommon(long a, long b) {
            long greater = a;
            long rest = b;
            for (int round = 0; round < 200 && rest != 0; round++) {
                long over = greater % rest;
                greater = rest;
                rest = over;
            }
            return greater;
        }

        int countExact(int upper, int lower) {
            weighAll(upper, lower, NONE);
            return exact;
        }

        private void weighAll(int upper, int lower, int without) {
            p = upper;
            q = lower;
            nearSize = 0;
            exact = 0;
            int used = without == NONE ? 0 : 1 << without;
            choose(PAIR, 0, used);
            choose(TWO_PAIRS, 0, used);
        }

        private void choose(int many, int depth, int used) {
            if (depth >= many || depth >= TWO_PAIRS) {
                weigh(many);
                return;
            }
            for (int w = 0; w < size; w++) {
                if (!hasBit(used, w)) {
                    row[depth] = w;
                    choose(many, depth + 1, used | 1 << w);
                }
            }
        }

        /** TRAINS come in the order of NEAREST, so that only a nearer one takes the place of one. */
        private void weigh(int many) {
            long upper = teethOf[row[0]];
            long lower = teethOf[row[1]];
            if (many == TWO_PAIRS) {
                upper *= teethOf[row[2]];
                lower *= teethOf[row[3]];
            }
            long away = Math.abs(upper * q - p * lower);
            if (away == 0) {
                exact++;
            }
            if (nearSize == 0 || away * nearLower < nearAway * lower) {
                nearSize = many;
                nearAway = away;
                nearLower = lower;
                System.arraycopy(row, 0, nearRow, 0, many);
            }
        }

        long changeByWear(int i, int n) {
            long upper = (long) trainTeeth[0] * trainTeeth[2];
            long lower = (long) trainTeeth[1] * trainTeeth[3];
            // The WHEEL on the same side stands two places away; a TRAIN of two has 1 there.
            long wornSide = (long) (trainTeeth[i] - n) * trainTeeth[(i + 2) % TWO_PAIRS];
            boolean isUpper = i % 2 == 0;
            long wornUpper = isUpper ? wornSide : upper;
            long wornLower = isUpper ? lower : wornSide;
            long below = wornLower * lower;
            return below == 0 ? 0 : (wornUpper * lower - upper * wornLower) * MILLION / below;
        }
    }

    /** What was GAUGED and put RIGHT, with the STAGES. */
    private static final class Gauged {
        int size = 0;
        int rights = 0;
        int latestStage = 0;
        private final int[] stage = new int[MOST_GAUGED];
        private final int[] partOf = new int[MOST_GAUGED];
        private final int[] stepOf = new int[MOST_GAUGED];
        private final int[] offOf = new int[MOST_GAUGED];
        private final int[] rightStage = new int[MOST_RIGHT];
        private final int[] rightOf = new int[MOST_RIGHT];
        private final int[] rightOff = new int[MOST_RIGHT];

        // As known at the STAGE of the latest look().
        int seen = 0;
        final int[] seenPart = new int[MOST_GAUGED];
        final int[] seenStep = new int[MOST_GAUGED];
        final int[] seenOff = new int[MOST_GAUGED];

        void clear() {
            size = 0;
            rights = 0;
            latestStage = 0;
        }

        int add(int told, int i, int s, int off) {
            if (size >= MOST_GAUGED) {
                return FULL;
            }
            latestStage = told;
            stage[size] = told;
            partOf[size] = i;
            stepOf[size] = s;
            offOf[size] = off;
            size++;
            return size - 1;
        }

        int putRight(int told, int k, int off) {
            if (rights >= MOST_RIGHT) {
                return FULL;
            }
            latestStage = told;
            rightStage[rights] = told;
            rightOf[rights] = k;
            rightOff[rights] = off;
            rights++;
            int times = 0;
            for (int n = 0; n < rights; n++) {
                if (rightOf[n] == k) {
                    times++;
                }
            }
            return times;
        }

        void look(int known) {
            seen = 0;
            for (int k = 0; k < size; k++) {
                if (stage[k] <= known) {
                    seenPart[seen] = partOf[k];
                    seenStep[seen] = stepOf[k];
                    seenOff[seen] = offAsKnown(k, known);
                    seen++;
                }
            }
        }

        private int offAsKnown(int k, int known) {
            int off = offOf[k];
            for (int n = 0; n < rights; n++) {
                if (rightOf[n] == k && rightStage[n] <= known) {
                    off = rightOff[n];
                }
            }
            return off;
        }
    }

    /** One CAUSE, by its number. */
    private static final class Cause {
        private final Part part;
        int heat = 0;
        int wornTool = NONE;
        int from = 0;
        int wornBy = 0;
        int dullStep = NONE;
        int dullBy = 0;

        Cause(Part part) {
            this.part = part;
        }

        static int heatOff(int heat, int i) {
            return heat * i / 5;
        }

        /** By a DULL STEP's way (0: none, else its STEP and by how much), for STEP s of part i. */
        static int dullOff(int way, int s, int i) {
            return dullBy(way, s) * i / 5;
        }

        static int dullBy(int way, int s) {
            return way > 0 && (way - 1) / DULLS == s ? (way - 1) % DULLS + 1 : 0;
        }

        boolean load(int number) {
            int dullWays = part.dullWays();
            int wornWays = part.wornWays();
            if (!isWithin(number, 0, part.causes() - 1) || dullWays < 1 || wornWays < 1) {
                return false;
            }
            loadDull(number % dullWays);
            loadWorn(number / dullWays % wornWays);
            heat = number / dullWays / wornWays - MOST_HEAT;
            return true;
        }

        private void loadDull(int way) {
            dullStep = way == 0 ? NONE : (way - 1) / DULLS;
            dullBy = way == 0 ? 0 : (way - 1) % DULLS + 1;
        }

        private void loadWorn(int way) {
            wornTool = way == 0 ? NONE : (way - 1) / (FROMS * WEARS);
            from = way == 0 ? 0 : (way - 1) / WEARS % FROMS;
            wornBy = way == 0 ? 0 : (way - 1) % WEARS + 1;
        }

        int offBy(int i, int s) {
            int off = heatOff(heat, i);
            if (part.toolOf[s] == wornTool && i >= from) {
                off += wornBy;
            }
            if (s == dullStep) {
                off += dullBy * i / 5;
            }
            return off;
        }

        int binOf(int i, int limit) {
            boolean isAbove = false;
            boolean isBelow = false;
            for (int s = 0; s < part.steps; s++) {
                int off = offBy(i, s);
                isAbove |= off > limit;
                isBelow |= off < -limit;
            }
            return (isAbove ? 1 : 0) + (isBelow ? 2 : 0);
        }
    }

    /**
     * FIT, as blocks: for one HEAT, one DULL way and one WORN TOOL (or none) the CAUSES that FIT are all
     * those with f and w between two bounds each. So nobody has to go through all CAUSES one by one.
     */
    private static final class Fits {
        private static final int MOST_BLOCKS = HEATS * (1 + MOST_STEPS * DULLS) * (1 + MOST_TOOLS);

        private final Part part;
        private final Gauged gauged;
        private int viewed = NONE;
        int total = 0;
        int least = NONE;

        int blocks = 0;
        final int[] heatOf = new int[MOST_BLOCKS];
        final int[] dullOf = new int[MOST_BLOCKS];
        final int[] toolOf = new int[MOST_BLOCKS];
        final int[] firstFrom = new int[MOST_BLOCKS];
        final int[] lastFrom = new int[MOST_BLOCKS];
        final int[] leastBy = new int[MOST_BLOCKS];
        final int[] mostBy = new int[MOST_BLOCKS];

        // By TOOL, of what HEAT and DULL leave over: the last part with nothing, the first with something, how much.
        private final int[] lastEven = new int[MOST_TOOLS];
        private final int[] firstOdd = new int[MOST_TOOLS];
        private final int[] oddBy = new int[MOST_TOOLS];

        Fits(Part part, Gauged gauged) {
            this.part = part;
            this.gauged = gauged;
        }

        void forget() {
            viewed = NONE;
        }

        void view(int known) {
            if (known == viewed) {
                return;
            }
            viewed = known;
            blocks = 0;
            total = 0;
            least = NONE;
            gauged.look(known);
            int dullWays = part.dullWays();
            for (int heat = -MOST_HEAT; heat <= MOST_HEAT; heat++) {
                for (int dull = 0; dull < dullWays; dull++) {
                    addBlocks(heat, dull);
                }
            }
        }

        private void addBlocks(int heat, int dull) {
            int oddTools = splitRests(heat, dull);
            if (oddTools == NONE) {
                return;
            }
            if (oddTools == 0) {
                addBlock(heat, dull, NONE, 0, 0, 0, 0);
            }
            for (int t = 0; t < part.tools; t++) {
                if ((oddTools & ~(1 << t)) == 0) {
                    int by = oddBy[t];
                    int last = Math.min(FROMS - 1, firstOdd[t]);
                    addBlock(heat, dull, t, lastEven[t] + 1, last, by == 0 ? 1 : by, by == 0 ? WEARS : by);
                }
            }
        }

        /** The TOOLS, as bits, that must be WORN; NONE when no WORN TOOL tells what is left over. */
        private int splitRests(int heat, int dull) {
            for (int t = 0; t < part.tools; t++) {
                lastEven[t] = -1;
                firstOdd[t] = PARTS;
                oddBy[t] = 0;
            }
            int oddTools = 0;
            for (int n = 0; n < gauged.seen; n++) {
                int i = gauged.seenPart[n];
                int s = gauged.seenStep[n];
                int t = part.toolOf[s];
                int rest = gauged.seenOff[n] - Cause.heatOff(heat, i) - Cause.dullOff(dull, s, i);
                if (rest == 0) {
                    lastEven[t] = Math.max(lastEven[t], i);
                    continue;
                }
                if (!isWithin(rest, 1, WEARS) || oddBy[t] != 0 && oddBy[t] != rest) {
                    return NONE;
                }
                firstOdd[t] = Math.min(firstOdd[t], i);
                oddBy[t] = rest;
                oddTools |= 1 << t;
            }
            return oddTools;
        }

        private void addBlock(int heat, int dull, int tool, int from, int lastOne, int by, int most) {
            if (from > lastOne || by > most || blocks >= MOST_BLOCKS) {
                return;
            }
            heatOf[blocks] = heat;
            dullOf[blocks] = dull;
            toolOf[blocks] = tool;
            firstFrom[blocks] = from;
            lastFrom[blocks] = lastOne;
            leastBy[blocks] = by;
            mostBy[blocks] = most;
            total += sizeOf(blocks);
            int worn = tool == NONE ? 0 : 1 + (tool * FROMS + from) * WEARS + by - 1;
            int number = ((heat + MOST_HEAT) * part.wornWays() + worn) * part.dullWays() + dull;
            least = least == NONE ? number : Math.min(least, number);
            blocks++;
        }

        int sizeOf(int block) {
            return (lastFrom[block] - firstFrom[block] + 1) * (mostBy[block] - leastBy[block] + 1);
        }

        int countWorn(int t) {
            int many = 0;
            for (int block = 0; block < blocks; block++) {
                many += toolOf[block] == t ? sizeOf(block) : 0;
            }
            return many;
        }

        int countDull(int s) {
            int many = 0;
            for (int block = 0; block < blocks; block++) {
                many += Cause.dullBy(dullOf[block], s) > 0 ? sizeOf(block) : 0;
            }
            return many;
        }

        int surely(int many) {
            if (total == 0) {
                return NONE;
            }
            if (many == 0) {
                return 0;
            }
            return many == total ? 1 : 2;
        }

        int firstBeyond(int limit) {
            int first = PARTS;
            for (int block = 0; block < blocks; block++) {
                if (!canGoBeyond(block, limit)) {
                    continue;
                }
                for (int i = 0; i < first; i++) {
                    if (isBeyond(block, i, limit)) {
                        first = i;
                    }
                }
            }
            return first < PARTS ? first : NONE;
        }

        /** Most blocks stay within a limit for all parts, which can be seen from the last one. */
        private boolean canGoBeyond(int block, int limit) {
            int heatAtLast = Cause.heatOff(heatOf[block], PARTS - 1);
            int dullMost = dullOf[block] == 0 ? 0 : ((dullOf[block] - 1) % DULLS + 1) * (PARTS - 1) / 5;
            return Math.max(0, heatAtLast) + dullMost + mostBy[block] > limit || -heatAtLast > limit;
        }

        private boolean isBeyond(int block, int i, int limit) {
            int heatOff = Cause.heatOff(heatOf[block], i);
            for (int s = 0; s < part.steps; s++) {
                int lowest = heatOff + Cause.dullOff(dullOf[block], s, i);
                int highest = lowest;
                if (part.toolOf[s] == toolOf[block]) {
                    highest += i >= firstFrom[block] ? mostBy[block] : 0;
                    lowest += i >= lastFrom[block] ? leastBy[block] : 0;
                }
                if (highest > limit || lowest < -limit) {
                    return true;
                }
            }
            return false;
        }
    }

    /**
     * NEXT. For one STEP the CAUSES that FIT fall into cells by HEAT and by how DULL the STEP is; in a cell
     * those tell alike whose WORN TOOL (if it is the STEP's) already tells, by w, and all the others. Going
     * from part to part, CAUSES move from the others to those that tell.
     */
    private static final class NextPick {
        private static final int PARTS_TRIED = 20;
        private static final int GRADES = DULLS + 1;
        private static final int CELLS = HEATS * GRADES;
        private static final int SLOTS = CELLS * WEARS;
        private static final int EDGES = FROMS + 1;
        // -7 is the least that a CAUSE tells of the parts tried, 27 the most.
        private static final int ZERO = 8;
        private static final int TELLINGS = 40;

        private final Part part;
        private final Fits fits;
        private final int[] others = new int[CELLS];
        private final int[] telling = new int[SLOTS];
        private final int[] joining = new int[SLOTS];
        // At f: how many more (or fewer) CAUSES a part begin to tell from f on than did at the part ahead.
        private final int[] edges = new int[SLOTS * EDGES];
        private final int[] alike = new int[TELLINGS];
        private int fewest = 0;
        private int picked = NONE;

        NextPick(Part part, Fits fits) {
            this.part = part;
            this.fits = fits;
        }

        int pick() {
            fewest = fits.total;
            picked = NONE;
            for (int s = 0; s < part.steps; s++) {
                sortBlocks(s);
                for (int i = 0; i < PARTS_TRIED; i++) {
                    weigh(i, s);
                }
            }
            return picked;
        }

        private void weigh(int i, int s) {
            int most = mostAlike(i);
            int answer = 10 * i + s;
            if (most < fewest || most == fewest && picked != NONE && answer < picked) {
                fewest = most;
                picked = answer;
            }
        }

        private void sortBlocks(int s) {
            Arrays.fill(others, 0);
            Arrays.fill(telling, 0);
            Arrays.fill(joining, 0);
            Arrays.fill(edges, 0);
            for (int block = 0; block < fits.blocks; block++) {
                int cell = (fits.heatOf[block] + MOST_HEAT) * GRADES + Cause.dullBy(fits.dullOf[block], s);
                others[cell] += fits.sizeOf(block);
                if (fits.toolOf[block] != part.toolOf[s]) {
                    continue;
                }
                for (int by = fits.leastBy[block]; by <= fits.mostBy[block]; by++) {
                    int slot = cell * WEARS + by - 1;
                    edges[slot * EDGES + fits.firstFrom[block]]++;
                    edges[slot * EDGES + fits.lastFrom[block] + 1]--;
                }
            }
        }

        /** To be asked for the parts 0, 1, 2 .. in turn. */
        private int mostAlike(int i) {
            Arrays.fill(alike, 0);
            for (int cell = 0; cell < CELLS; cell++) {
                int heat = cell / GRADES - MOST_HEAT;
                int base = ZERO + Cause.heatOff(heat, i) + cell % GRADES * i / 5;
                for (int by = 1; by <= WEARS; by++) {
                    int slot = cell * WEARS + by - 1;
                    joining[slot] += i < EDGES ? edges[slot * EDGES + i] : 0;
                    telling[slot] += joining[slot];
                    others[cell] -= joining[slot];
                    alike[base + by] += telling[slot];
                }
                alike[base] += others[cell];
            }
            int most = 0;
            for (int n = 0; n < TELLINGS; n++) {
                most = Math.max(most, alike[n]);
            }
            return most;
        }
    }
}
