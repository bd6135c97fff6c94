import java.math.BigInteger;
import java.nio.charset.StandardCharsets;
import java.util.ArrayList;
import java.util.Arrays;
import java.util.HashMap;
import java.util.List;
import java.util.Map;
import java.util.TreeMap;
import java.util.regex.Matcher;
import java.util.regex.Pattern;

/**
 * The document once more, by other and slower ways than the program's, to compare answers with: plans by
 * trying all begins or all rows, FIT by going through all CAUSES, wheels by big fractions.
 */
final class Naive {
    static final List<String> CLAUSES = List.of("tWNN;", "sWN;", "sWNN;", "aNN;", "mWW;", "iN;");
    static final Map<String, String> FIRST_WORDS =
            Map.of("tool", "t", "step", "s", "after", "a", "meet", "m", "idle", "i");

    /** A PART as read; a new one for each text. */
    static final class Told {
        final List<String> names = new ArrayList<>();
        final List<int[]> tools = new ArrayList<>();
        final List<int[]> steps = new ArrayList<>();
        final List<List<Integer>> after = new ArrayList<>();
        final List<List<Integer>> meet = new ArrayList<>();
        Integer idle = null;
        int clauses = 0;
        int kind = 0;
        int place = -1;

        int feed(int t) { return tools.get(t)[0]; }
        int slope(int t) { return tools.get(t)[1]; }
        int tool(int k) { return steps.get(k)[0]; }
        int rise(int k) { return steps.get(k)[1]; }
        int up(int k) { return rise(k) * feed(tool(k)); }
        int turns(int k) { return up(k) + steps.get(k)[2]; }
        int idle() { return idle == null ? 10 : idle; }
        boolean waits(int later, int first) { return after.contains(List.of(first, later)); }
        boolean meets(int t, int u) { return meet.contains(List.of(t, u)) || meet.contains(List.of(u, t)); }
        boolean apart(int j, int k) { return tool(j) == tool(k) || meets(tool(j), tool(k)); }
    }

    String tape = "";
    Told part = new Told();
    int kind = 0;
    int place = -1;
    int[] plan = new int[0];
    int length = 0;
    final int[][] old = new int[4][100];
    int[] gets = new int[0];
    List<Integer> box = new ArrayList<>();
    int[] trainRow = new int[0];
    int[] trainTeeth = new int[0];
    BigInteger[] off = {BigInteger.ZERO, BigInteger.valueOf(-1)};
    final List<int[]> gauged = new ArrayList<>();
    final List<int[]> rights = new ArrayList<>();
    int stage = 0;

    int feed(int a, int b, int c, int d, int e) {
        if (tape.length() > 780) return -3;
        StringBuilder more = new StringBuilder(tape);
        for (int word : new int[] {a, b, c, d, e}) {
            for (byte one : BigInteger.valueOf(word & 0xffffffffL).or(BigInteger.ONE.shiftLeft(32)).toByteArray()) {
                more.append((char) (one & 255));
            }
            more.deleteCharAt(more.length() - 5);
        }
        tape = more.toString();
        return tape.length();
    }

    int end(int n) {
        if (n < 0 || n > tape.length()) return -1;
        tape = tape.substring(0, n);
        return n;
    }

    int part() {
        Told told = read(tape);
        tape = "";
        kind = told.kind;
        place = told.place;
        if (kind != 0) return -1;
        part = told;
        gauged.clear();
        rights.clear();
        stage = 0;
        gets = new int[0];
        layOut();
        return part.clauses;
    }

    static Told read(String text) {
        Told told = new Told();
        Matcher tokens = Pattern.compile("[a-z]+|[0-9]+|[^ \n]", Pattern.DOTALL).matcher(text);
        List<String> clause = new ArrayList<>();
        String shape = "";
        while (tokens.find()) {
            String token = tokens.group();
            String grown = shape + letterOf(token, shape.isEmpty());
            boolean goesOn = CLAUSES.stream().anyMatch(c -> c.startsWith(grown));
            clause.add(token);
            shape = grown;
            told.kind = goesOn ? meaningFault(told, shape, clause) : 1;
            if (told.kind != 0) {
                told.place = tokens.start();
                return told;
            }
            if (shape.endsWith(";")) {
                take(told, shape, clause);
                clause.clear();
                shape = "";
            }
        }
        if (!shape.isEmpty()) {
            told.kind = 1;
            told.place = text.length();
        }
        return told;
    }

    static String letterOf(String token, boolean isFirst) {
        if (isFirst) return FIRST_WORDS.getOrDefault(token, "?");
        if (token.matches("[a-z]{1,8}")) return "W";
        if (token.matches("[0-9]{1,4}")) return "N";
        return token.equals(";") ? ";" : "?";
    }

    static boolean out(String number, int least, int most) {
        int n = Integer.parseInt(number);
        return n < least || n > most;
    }

    static int meaningFault(Told told, String shape, List<String> clause) {
        String last = clause.get(clause.size() - 1);
        switch (shape) {
            case "t": return told.tools.size() == 6 ? 4 : 0;
            case "s": return told.steps.size() == 7 ? 4 : 0;
            case "i": return told.idle != null ? 3 : 0;
            case "tW": return told.names.contains(last) ? 3 : 0;
            case "tWN": return out(last, 1, 50) ? 2 : 0;
            case "tWNN": return out(last, 1, 60) ? 2 : 0;
            case "sW":
            case "mW": return told.names.contains(last) ? 0 : 5;
            case "sWN": return out(last, 1, 400) ? 2 : 0;
            case "sWNN": return out(last, 0, 99) ? 2 : 0;
            case "aN": return out(last, 0, told.steps.size() - 1) ? 2 : 0;
            case "iN": return out(last, 0, 40) ? 2 : 0;
            case "aNN": {
                int a = Integer.parseInt(clause.get(1));
                int b = Integer.parseInt(last);
                if (b >= told.steps.size() || b < a) return 2;
                return a == b || told.waits(b, a) ? 3 : 0;
            }
            case "mWW": {
                int t = told.names.indexOf(clause.get(1));
                int u = told.names.indexOf(last);
                if (t == u || u >= 0 && told.meets(t, u)) return 3;
                return u < 0 ? 5 : 0;
            }
            default: return 0;
        }
    }

    static void take(Told told, String shape, List<String> clause) {
        told.clauses++;
        int[] n = new int[clause.size()];
        for (int i = 0; i < n.length; i++) {
            if (clause.get(i).matches("[0-9]+")) n[i] = Integer.parseInt(clause.get(i));
        }
        switch (shape.charAt(0)) {
            case 't':
                told.names.add(clause.get(1));
                told.tools.add(new int[] {n[2], n[3]});
                break;
            case 's':
                told.steps.add(new int[] {told.names.indexOf(clause.get(1)), n[2], n.length > 4 ? n[3] : 0});
                break;
            case 'a':
                told.after.add(List.of(n[1], n[2]));
                break;
            case 'm':
                told.meet.add(List.of(told.names.indexOf(clause.get(1)), told.names.indexOf(clause.get(2))));
                break;
            default:
                told.idle = n[1];
        }
    }

    int fault(int what) { return what == 0 ? kind : what == 1 ? place : -1; }

    int told(int what) {
        if (what == 0) return part.tools.size();
        if (what == 1) return part.steps.size();
        if (what == 2) return part.idle();
        if (what == 3) return box.size();
        if (what == 4) return length;
        int ones = Math.floorMod(what, 10);
        int tens = Math.floorDiv(what, 10);
        boolean isStep = ones < part.steps.size();
        boolean isTool = ones < part.tools.size();
        if (tens == 1 && isStep) return part.turns(ones);
        if (tens == 2 && isStep) return part.tool(ones);
        if (tens == 3 && isStep) return bits(part.steps.size(), j -> part.waits(ones, j));
        if (tens == 4 && isTool) return bits(part.tools.size(), u -> part.meets(ones, u));
        if (tens == 5 && isTool) return part.feed(ones);
        if (tens == 6 && isTool) return part.slope(ones);
        return -1;
    }

    static int bits(int many, java.util.function.IntPredicate is) {
        int sum = 0;
        for (int i = 0; i < many; i++) if (is.test(i)) sum += 1 << i;
        return sum;
    }

    // ---- plans

    void layOut() {
        int n = part.steps.size();
        int sum = 0;
        for (int k = 0; k < n; k++) sum += part.turns(k);
        plan = sum <= 12 ? bestByBegins() : bestByRows();
        length = lengthOf(plan);
    }

    int lengthOf(int[] begins) {
        int latest = 0;
        for (int k = 0; k < begins.length; k++) latest = Math.max(latest, begins[k] + part.turns(k));
        return latest;
    }

    boolean isPlan(int[] begins, int many) {
        for (int j = 0; j < many; j++) {
            for (int k = j + 1; k < many; k++) {
                if (part.waits(k, j) && begins[k] < begins[j] + part.turns(j)) return false;
                boolean overlap = begins[j] < begins[k] + part.turns(k) && begins[k] < begins[j] + part.turns(j);
                if (part.apart(j, k) && overlap) return false;
            }
        }
        return true;
    }

    /** The word of the document: for each LENGTH from 0 on all begins, the least row first. */
    int[] bestByBegins() {
        int n = part.steps.size();
        for (int most = 0; ; most++) {
            int[] begins = new int[n];
            if (tryBegins(begins, 0, most)) return begins;
        }
    }

    boolean tryBegins(int[] begins, int k, int most) {
        if (k == begins.length) return true;
        for (int b = 0; b + part.turns(k) <= most; b++) {
            begins[k] = b;
            if (isPlan(begins, k + 1) && tryBegins(begins, k + 1, most)) return true;
        }
        return false;
    }

    /** All rows of STEPS, each put in behind all that it may not meet and that are in already. */
    int[] bestByRows() {
        List<int[]> best = new ArrayList<>();
        rows(new ArrayList<>(), best);
        return best.get(0);
    }

    void rows(List<Integer> row, List<int[]> best) {
        int n = part.steps.size();
        if (row.size() == n) {
            int[] begins = new int[n];
            for (int at = 0; at < n; at++) {
                int k = row.get(at);
                for (int was = 0; was < at; was++) {
                    int j = row.get(was);
                    if (part.waits(k, j) || part.apart(j, k)) {
                        begins[k] = Math.max(begins[k], begins[j] + part.turns(j));
                    }
                }
            }
            if (best.isEmpty()) best.add(begins);
            int less = Integer.compare(lengthOf(begins), lengthOf(best.get(0)));
            if (less < 0 || less == 0 && Arrays.compare(begins, best.get(0)) < 0) best.set(0, begins);
            return;
        }
        for (int k = 0; k < n; k++) {
            int next = k;
            boolean isReady = true;
            for (int j = 0; j < n; j++) if (part.waits(next, j) && !row.contains(j)) isReady = false;
            if (!isReady || row.contains(k)) continue;
            row.add(k);
            rows(row, best);
            row.remove(row.size() - 1);
        }
    }

    boolean isStep(int k) { return k >= 0 && k < part.steps.size(); }
    boolean isTool(int t) { return t >= 0 && t < part.tools.size(); }

    int begin(int k) { return isStep(k) ? plan[k] : -2; }

    int held(int k) {
        if (!isStep(k)) return -2;
        int[] later = plan.clone();
        later[k]++;
        return isPlan(later, later.length) && lengthOf(later) == length ? 0 : 1;
    }

    int byRow() {
        String row = tape;
        tape = "";
        int n = part.steps.size();
        char[] sorted = row.toCharArray();
        Arrays.sort(sorted);
        if (!new String(sorted).equals("0123456".substring(0, n))) return -1;
        int latest = 0;
        Map<Integer, Integer> in = new HashMap<>();
        for (int at = 0; at < n; at++) {
            int k = row.charAt(at) - 48;
            for (int j = 0; j < n; j++) if (part.waits(k, j) && !in.containsKey(j)) return -1;
            List<Integer> tries = new ArrayList<>(List.of(0));
            in.forEach((j, b) -> tries.add(b + part.turns(j)));
            tries.sort(null);
            for (int b : tries) {
                boolean isFree = true;
                for (int j : in.keySet()) {
                    int itsEnd = in.get(j) + part.turns(j);
                    if (part.waits(k, j) && b < itsEnd) isFree = false;
                    if (part.apart(j, k) && b < itsEnd && in.get(j) < b + part.turns(k)) isFree = false;
                }
                if (isFree) {
                    in.put(k, b);
                    latest = Math.max(latest, b + part.turns(k));
                    break;
                }
            }
        }
        return latest;
    }

    // ---- discs

    int mark(int turn) { return length == 0 ? 0 : (int) ((long) turn * (100 - part.idle()) / length); }
    int a(int k) { return mark(plan[k]); }
    int c(int k) { return mark(plan[k] + part.up(k)); }
    int b(int k) { return mark(plan[k] + part.turns(k)); }

    /** A STEP's whole DISC, going from MARK to MARK. */
    int[] stepDisc(int k) {
        int[] disc = new int[100];
        int fall = part.rise(k);
        for (int x = 0; x < 100; x++) {
            int at = a(k) + x;
            int h;
            if (at < c(k)) {
                h = part.rise(k) * x / (c(k) - a(k));
            } else if (at <= b(k)) {
                h = part.rise(k);
            } else {
                fall = Math.max(0, fall - part.slope(part.tool(k)));
                h = fall;
            }
            disc[at % 100] = h;
        }
        return disc;
    }

    int[] disc(int t) {
        int[] disc = new int[100];
        for (int k = 0; k < part.steps.size(); k++) {
            if (part.tool(k) != t) continue;
            int[] one = stepDisc(k);
            for (int m = 0; m < 100; m++) disc[m] = Math.max(disc[m], one[m]);
        }
        return disc;
    }

    int height(int t, int m) { return isTool(t) && m >= 0 && m < 100 ? disc(t)[m] : -2; }

    boolean isSteep(int k, int slope) { return part.rise(k) > slope * (c(k) - a(k)); }

    boolean isLate(int k) {
        for (int j = 0; j < part.steps.size(); j++) {
            if (j != k && part.tool(j) == part.tool(k) && stepDisc(j)[a(k)] > 0) return true;
        }
        return false;
    }

    int lobe(int k, int what) {
        if (!isStep(k) || what < 0 || what > 4) return -2;
        if (what == 3) return isSteep(k, part.slope(part.tool(k))) ? 1 : 0;
        if (what == 4) return isLate(k) ? 1 : 0;
        return new int[] {a(k), c(k), b(k)}[what];
    }

    int wrong(int what) {
        if (what == 0) return bits(part.steps.size(), k -> lobe(k, 3) == 1);
        if (what == 1) return bits(part.steps.size(), k -> lobe(k, 4) == 1);
        return -1;
    }

    int slope(int t) {
        if (!isTool(t)) return -2;
        for (int slope = 1; slope <= 60; slope++) {
            int tried = slope;
            if (bits(part.steps.size(), k -> part.tool(k) == t && isSteep(k, tried)) == 0) return slope;
        }
        return -1;
    }

    // ---- old discs

    int old(int k) {
        String row = tape;
        tape = "";
        if (k < 0 || k > 3) return -2;
        if (row.length() != 200) return -1;
        int[] heights = new int[100];
        for (int m = 0; m < 100; m++) {
            heights[m] = 100 * row.charAt(2 * m) - 4800 + row.charAt(2 * m + 1) - 48;
            if (heights[m] < 0 || heights[m] > 999) return -1;
        }
        old[k] = heights;
        return 1;
    }

    int was(int k, int m) { return k >= 0 && k < 4 && m >= 0 && m < 100 ? old[k][m] : -2; }

    int keep(int t, int k, int base) {
        if (!isTool(t) || k < 0 || k > 3 || base < 0 || base > 500) return -2;
        old[k] = Arrays.stream(disc(t)).map(h -> h + base).toArray();
        return Arrays.stream(old[k]).max().getAsInt();
    }

    int[] bestTurn(int t, int k) {
        int[] disc = disc(t);
        int[] best = null;
        for (int r = 0; r < 100; r++) {
            int base = Integer.MAX_VALUE;
            for (int m = 0; m < 100; m++) base = Math.min(base, old[k][(m + r) % 100] - disc[m]);
            if (base < 0) continue;
            int filed = 0;
            for (int m = 0; m < 100; m++) filed += old[k][(m + r) % 100] - disc[m] - base;
            if (best == null || filed < best[2]) best = new int[] {r, base, filed};
        }
        return best;
    }

    int file(int t, int k, int what) {
        if (!isTool(t) || k < 0 || k > 3 || what < 0 || what > 2) return -2;
        int[] best = bestTurn(t, k);
        return best == null ? -1 : best[what];
    }

    int share(int price) {
        if (price < 0 || price > 99999) return -2;
        int n = part.tools.size();
        int[][] cost = new int[n][5];
        for (int t = 0; t < n; t++) {
            int tool = t;
            boolean has = bits(part.steps.size(), k -> part.tool(k) == tool) != 0;
            for (int k = 0; k < 4; k++) {
                int[] best = has ? bestTurn(t, k) : null;
                cost[t][k] = best == null ? -1 : best[2];
            }
            cost[t][4] = has ? price : 0;
        }
        long least = Long.MAX_VALUE;
        int[] bestRow = new int[n];
        for (int code = 0; code < Math.pow(5, n); code++) {
            int rest = code;
            int[] row = new int[n];
            for (int t = n - 1; t >= 0; t--) {
                row[t] = rest % 5;
                rest /= 5;
            }
            long sum = 0;
            int used = 0;
            boolean can = true;
            for (int t = 0; t < n; t++) {
                can &= cost[t][row[t]] >= 0 && (row[t] == 4 || (used >> row[t] & 1) == 0);
                if (row[t] < 4) used |= 1 << row[t];
                sum += cost[t][row[t]];
            }
            if (can && sum < least) {
                least = sum;
                bestRow = row;
            }
        }
        gets = Arrays.stream(bestRow).map(k -> k == 4 ? -1 : k).toArray();
        return (int) least;
    }

    int shared(int t) { return t >= 0 && t < gets.length ? gets[t] : -1; }

    // ---- wheels

    int box() {
        String text = tape;
        tape = "";
        if (!text.matches("(?s)[ \n]*([0-9]{1,4}([ \n]+|$))*")) return -1;
        List<Integer> wheels = new ArrayList<>();
        for (String one : text.trim().split("[ \n]+")) if (!one.isEmpty()) wheels.add(Integer.parseInt(one));
        if (wheels.size() > 10 || wheels.stream().anyMatch(w -> w < 10 || w > 200)) return -1;
        box = wheels;
        return box.size();
    }

    int teeth(int i) { return i >= 0 && i < box.size() ? box.get(i) : -2; }

    List<int[]> trains(int without) {
        List<int[]> all = new ArrayList<>();
        int n = box.size();
        for (int size = 2; size <= 4; size += 2) {
            for (int code = 0; code < Math.pow(n, size); code++) {
                int[] row = new int[size];
                int rest = code;
                for (int at = size - 1; at >= 0; at--) {
                    row[at] = rest % n;
                    rest /= n;
                }
                if (Arrays.stream(row).distinct().count() == size && Arrays.stream(row).noneMatch(w -> w == without)) {
                    all.add(row);
                }
            }
        }
        return all;
    }

    static BigInteger[] reduced(BigInteger upper, BigInteger lower) {
        BigInteger common = upper.gcd(lower);
        return new BigInteger[] {upper.divide(common), lower.divide(common)};
    }

    static BigInteger[] ratio(int[] teeth) {
        BigInteger upper = BigInteger.ONE;
        BigInteger lower = BigInteger.ONE;
        for (int at = 0; at < teeth.length; at++) {
            if (at % 2 == 0) upper = upper.multiply(BigInteger.valueOf(teeth[at]));
            else lower = lower.multiply(BigInteger.valueOf(teeth[at]));
        }
        return new BigInteger[] {upper, lower};
    }

    static BigInteger[] less(BigInteger[] x, BigInteger[] y) {
        return reduced(x[0].multiply(y[1]).subtract(y[0].multiply(x[1])), x[1].multiply(y[1]));
    }

    int[] teethOf(int[] row) { return Arrays.stream(row).map(box::get).toArray(); }

    static boolean isRatio(int p, int q) { return p >= 1 && p <= 9999 && q >= 1 && q <= 9999; }

    int train(int p, int q, int without) {
        if (!isRatio(p, q) || without < -1 || without >= box.size()) return -2;
        BigInteger[] wanted = {BigInteger.valueOf(p), BigInteger.valueOf(q)};
        int[] best = null;
        BigInteger[] bestOff = null;
        for (int[] row : trains(without)) {
            BigInteger[] its = less(ratio(teethOf(row)), wanted);
            if (best == null
                    || its[0].abs().multiply(bestOff[1]).compareTo(bestOff[0].abs().multiply(its[1])) < 0) {
                best = row;
                bestOff = its;
            }
        }
        if (best == null) return -1;
        trainRow = best;
        trainTeeth = teethOf(best);
        off = bestOff;
        return best.length;
    }

    int wheel(int i) { return i >= 0 && i < trainRow.length ? trainRow[i] : -1; }
    long off(boolean isLower) { return off[isLower ? 1 : 0].longValueExact(); }

    int spare(int p, int q) {
        if (!isRatio(p, q)) return -2;
        BigInteger[] wanted = {BigInteger.valueOf(p), BigInteger.valueOf(q)};
        return (int) trains(-1).stream().filter(row -> less(ratio(teethOf(row)), wanted)[0].signum() == 0).count();
    }

    long worn(int i, int n) {
        if (n < 1 || n > 9) return -2;
        if (trainRow.length == 0) return -4;
        if (i < 0 || i >= trainRow.length || trainTeeth[i] - n < 1) return -2;
        int[] fewer = trainTeeth.clone();
        fewer[i] -= n;
        BigInteger[] change = less(ratio(fewer), ratio(trainTeeth));
        return change[0].multiply(BigInteger.valueOf(1000000)).divide(change[1]).longValueExact();
    }

    // ---- gauged

    int gauge(int told, int i, int s, int by) {
        if (told < stage || told > 999 || i < 0 || i > 39 || !isStep(s) || Math.abs((long) by) > 99) return -2;
        if (gauged.size() == 16) return -3;
        stage = told;
        gauged.add(new int[] {told, i, s, by});
        return gauged.size() - 1;
    }

    int right(int told, int k, int by) {
        if (told < stage || told > 999 || k < 0 || k >= gauged.size() || Math.abs((long) by) > 99) return -2;
        if (rights.size() == 20) return -3;
        stage = told;
        rights.add(new int[] {told, k, by});
        return (int) rights.stream().filter(r -> r[1] == k).count();
    }

    /** All CAUSES in their order: h, d, f, w, s, g. */
    List<int[]> causes() {
        List<int[]> all = new ArrayList<>();
        for (int h = -2; h <= 2; h++) {
            for (int d = -1; d < part.tools.size(); d++) {
                for (int f = 0; f < (d < 0 ? 1 : 12); f++) {
                    for (int w = d < 0 ? 0 : 1; w <= (d < 0 ? 0 : 5); w++) {
                        for (int s = -1; s < part.steps.size(); s++) {
                            for (int g = s < 0 ? 0 : 1; g <= (s < 0 ? 0 : 4); g++) {
                                all.add(new int[] {h, d, f, w, s, g});
                            }
                        }
                    }
                }
            }
        }
        return all;
    }

    int tellsBy(int[] cause, int i, int s) {
        int by = cause[0] * i / 5;
        if (cause[1] >= 0 && part.tool(s) == cause[1] && i >= cause[2]) by += cause[3];
        if (cause[4] == s) by += cause[5] * i / 5;
        return by;
    }

    List<int[]> fits(int known) {
        List<int[]> all = causes();
        for (int k = 0; k < gauged.size(); k++) {
            int[] one = gauged.get(k);
            if (one[0] > known) continue;
            int by = one[3];
            for (int[] right : rights) if (right[1] == k && right[0] <= known) by = right[2];
            int due = by;
            all.removeIf(c -> tellsBy(c, one[1], one[2]) != due);
        }
        return all;
    }

    int numberOf(int[] cause) {
        List<int[]> all = causes();
        for (int n = 0; n < all.size(); n++) if (Arrays.equals(all.get(n), cause)) return n;
        return -1;
    }

    static boolean isStage(int known) { return known >= 0 && known <= 999; }

    int fit(int known, int what) {
        if (!isStage(known) || what < 0 || what > 1) return -2;
        List<int[]> fits = fits(known);
        if (what == 0) return fits.size();
        return fits.isEmpty() ? -1 : numberOf(fits.get(0));
    }

    int cause(int n, int what) {
        List<int[]> all = causes();
        if (n < 0 || n >= all.size() || what < 0 || what > 5) return -9;
        return all.get(n)[what];
    }

    int tells(int n, int i, int s) {
        List<int[]> all = causes();
        if (n < 0 || n >= all.size() || i < 0 || i > 39 || !isStep(s)) return -9999;
        return tellsBy(all.get(n), i, s);
    }

    int surely(int known, int field, int number) {
        List<int[]> fits = fits(known);
        if (fits.isEmpty()) return -1;
        long by = fits.stream().filter(c -> c[field] == number).count();
        return by == fits.size() ? 1 : by == 0 ? 0 : 2;
    }

    int surelyWorn(int t, int known) { return isTool(t) && isStage(known) ? surely(known, 1, t) : -2; }
    int surelyDull(int s, int known) { return isStep(s) && isStage(known) ? surely(known, 4, s) : -2; }

    int next() {
        List<int[]> fits = fits(999);
        int fewest = fits.size();
        int answer = -1;
        for (int i = 0; i < 20; i++) {
            for (int s = 0; s < part.steps.size(); s++) {
                Map<Integer, Integer> alike = new TreeMap<>();
                for (int[] c : fits) alike.merge(tellsBy(c, i, s), 1, Integer::sum);
                int most = alike.values().stream().mapToInt(x -> x).max().orElse(0);
                if (most < fewest) {
                    fewest = most;
                    answer = 10 * i + s;
                }
            }
        }
        return answer;
    }

    int halt(int limit, int known) {
        if (limit < 0 || limit > 99 || !isStage(known)) return -2;
        List<int[]> fits = fits(known);
        for (int i = 0; i < 40; i++) {
            for (int[] c : fits) {
                for (int s = 0; s < part.steps.size(); s++) {
                    if (Math.abs(tellsBy(c, i, s)) > limit) return i;
                }
            }
        }
        return -1;
    }

    int bin(int i, int limit, int known) {
        if (i < 0 || i > 39 || limit < 0 || limit > 99 || !isStage(known)) return -2;
        List<int[]> fits = fits(known);
        if (fits.isEmpty()) return -1;
        int[] c = fits.get(0);
        boolean above = bits(part.steps.size(), s -> tellsBy(c, i, s) > limit) != 0;
        boolean below = bits(part.steps.size(), s -> tellsBy(c, i, s) < -limit) != 0;
        return above ? below ? 3 : 1 : below ? 2 : 0;
    }

    int count(int what) {
        switch (what) {
            case 0: return part.clauses;
            case 1: return gauged.size();
            case 2: return rights.size();
            case 3: return tape.length();
            case 4: return causes().size();
            default: return -1;
        }
    }

    static byte[] bytes(String text) { return text.getBytes(StandardCharsets.ISO_8859_1); }
}
