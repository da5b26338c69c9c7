import java.util.ArrayList;
import java.util.List;
import java.util.regex.Matcher;
import java.util.regex.Pattern;

/**
 * The document once more, as slow and plain as its words: lists, a time after the other, all sets of primes.
 * It shares no line with GlitchNets, so that a slip in the one shows against the other.
 */
final class PlainModel {
    static final int NONE = -1, BAD = -2, STATE = -3, FULL = -4;

    /** kind, first, second, delay of a gate; cares, wants of a term. */
    private List<int[]> gates = new ArrayList<>();
    private List<int[]> terms = new ArrayList<>();
    private final List<Object[]> ahead = new ArrayList<>();
    private Object[] kept = null;
    private String tape = "";
    private final Object[] sheets = new Object[4];

    private static List<int[]> copyOf(List<int[]> rows) {
        List<int[]> copy = new ArrayList<>();
        for (int[] row : rows) {
            copy.add(row.clone());
        }
        return copy;
    }

    private Object[] snapshot() {
        return new Object[] {copyOf(gates), copyOf(terms)};
    }

    @SuppressWarnings("unchecked")
    private void restore(Object[] snapshot) {
        gates = copyOf((List<int[]>) snapshot[0]);
        terms = copyOf((List<int[]>) snapshot[1]);
    }

    private void deed() {
        ahead.add(snapshot());
        if (ahead.size() > 6) {
            ahead.remove(0);
        }
    }

    int feed(int n, int a, int b, int c, int d, int e) {
        int[] all = {a, b, c, d, e};
        if (n < 1 || n > 5) {
            return BAD;
        }
        for (int v : all) {
            if (v < 0 || v > 255) {
                return BAD;
            }
        }
        if (tape.length() + n > 30) {
            return FULL;
        }
        for (int i = 0; i < n; i++) {
            tape += (char) all[i];
        }
        return tape.length();
    }

    private static final List<String> WORDS = List.of("and", "nand", "or", "nor", "xor", "not");

    private static int numberIn(String piece) {
        return piece.matches("[0-9]{1,2}") ? Integer.parseInt(piece) : NONE;
    }

    private Integer sourceIn(String piece) {
        if (piece.matches("[a-d]")) {
            return -1 - (piece.charAt(0) - 'a');
        }
        int number = numberIn(piece);
        return number >= 0 && number < gates.size() ? Integer.valueOf(number) : null;
    }

    int text() {
        String text = tape;
        tape = "";
        Matcher pieces = Pattern.compile("[a-z]+|[0-9]+|[^ ]", Pattern.DOTALL).matcher(text);
        List<Integer> gate = new ArrayList<>();
        int sources = 2;
        while (pieces.find()) {
            String piece = pieces.group();
            boolean stands = false;
            if (gate.isEmpty()) {
                int kind = WORDS.indexOf(piece);
                stands = kind >= 0;
                gate.add(kind);
                sources = kind == 5 ? 1 : 2;
            } else if (gate.size() <= sources) {
                Integer source = sourceIn(piece);
                stands = source != null;
                gate.add(source);
            } else if (gate.size() == sources + 1) {
                int delay = numberIn(piece);
                stands = delay >= 1 && delay <= 9;
                gate.add(delay);
            }
            if (!stands) {
                return -100 - pieces.start();
            }
        }
        if (gate.size() < sources + 2) {
            return -100 - text.length();
        }
        if (gates.size() == 12) {
            return FULL;
        }
        deed();
        gates.add(new int[] {gate.get(0), gate.get(1), gate.get(sources), gate.get(sources + 1)});
        return gates.size() - 1;
    }

    private boolean noGate(int gate) {
        return gate < 0 || gate >= gates.size();
    }

    int delay(int gate, int v) {
        if (noGate(gate) || v < 1 || v > 9) {
            return BAD;
        }
        deed();
        int was = gates.get(gate)[3];
        gates.get(gate)[3] = v;
        return was;
    }

    int drop() {
        if (gates.isEmpty()) {
            return STATE;
        }
        gates.remove(gates.size() - 1);
        ahead.clear();
        return gates.size();
    }

    private int pathOf(int gate) {
        int longest = 0;
        for (int i = 1; i <= 2; i++) {
            int source = gates.get(gate)[i];
            if (source >= 0) {
                longest = Math.max(longest, pathOf(source));
            }
        }
        return longest + gates.get(gate)[3];
    }

    int gate(int gate, int what) {
        if (noGate(gate) || what < 0 || what > 5) {
            return BAD;
        }
        if (what < 4) {
            return gates.get(gate)[what];
        }
        if (what == 4) {
            return pathOf(gate);
        }
        int users = 0;
        for (int[] user : gates) {
            users += user[1] == gate || user[2] == gate ? 1 : 0;
        }
        return users;
    }

    int taken(int gate, int k) {
        if (noGate(gate) || k < 0 || k > 5) {
            return BAD;
        }
        int kind = gates.get(gate)[0];
        boolean fits = kind == k || kind == 1 && k == 0 || kind == 3 && k == 2;
        return fits ? gates.get(gate)[3] : -13;
    }

    private static boolean tellsByKind(int kind, boolean p, boolean q) {
        switch (kind) {
            case 0: return p && q;
            case 1: return !(p && q);
            case 2: return p || q;
            case 3: return !(p || q);
            case 4: return p != q;
            default: return !p;
        }
    }

    private boolean steady(int source, int inputs) {
        if (source < 0) {
            return (inputs >> (-1 - source)) % 2 == 1;
        }
        int[] gate = gates.get(source);
        return tellsByKind(gate[0], steady(gate[1], inputs), steady(gate[2], inputs));
    }

    int tells(int gate, int inputs) {
        if (noGate(gate) || inputs < 0 || inputs > 15) {
            return BAD;
        }
        return steady(gate, inputs) ? 1 : 0;
    }

    int table() {
        if (gates.isEmpty()) {
            return STATE;
        }
        int table = 0;
        for (int inputs = 0; inputs < 16; inputs++) {
            table += tells(gates.size() - 1, inputs) << inputs;
        }
        return table;
    }

    /** The output at times -1 .. 108, moved up by one place. */
    private int[] waveOf(int x, int y) {
        int[][] told = new int[gates.size()][110];
        for (int g = 0; g < gates.size(); g++) {
            int[] gate = gates.get(g);
            told[g][0] = steady(g, x) ? 1 : 0;
            for (int t = 0; t <= 108; t++) {
                boolean[] sources = new boolean[2];
                for (int i = 0; i < 2; i++) {
                    int source = gate[1 + i];
                    int then = t - gate[3];
                    if (source < 0) {
                        sources[i] = steady(source, then < 0 ? x : y);
                    } else {
                        sources[i] = told[source][then < 0 ? 0 : then + 1] == 1;
                    }
                }
                told[g][t + 1] = tellsByKind(gate[0], sources[0], sources[1]) ? 1 : 0;
            }
        }
        return told[gates.size() - 1];
    }

    private static boolean noChange(int x, int y) {
        return x < 0 || x > 15 || y < 0 || y > 15 || x == y;
    }

    int wave(int x, int y, int time) {
        if (noChange(x, y) || time < 0 || time > 108) {
            return BAD;
        }
        return gates.isEmpty() ? STATE : waveOf(x, y)[time + 1];
    }

    int change(int x, int y, int what) {
        if (noChange(x, y) || what < 0 || what > 2) {
            return BAD;
        }
        if (gates.isEmpty()) {
            return STATE;
        }
        int[] wave = waveOf(x, y);
        int flips = 0;
        int last = NONE;
        for (int t = 0; t <= 108; t++) {
            if (wave[t + 1] != wave[t]) {
                flips++;
                last = t;
            }
        }
        if (what == 0) {
            return flips;
        }
        if (what == 2) {
            return last;
        }
        if (wave[109] == wave[0]) {
            return flips > 0 ? 1 : 0;
        }
        return flips > 1 ? 2 : 0;
    }

    private static List<int[]> oneInputChanges() {
        List<int[]> changes = new ArrayList<>();
        for (int x = 0; x < 16; x++) {
            for (int y = 0; y < 16; y++) {
                int d = x ^ y;
                if (d == 1 || d == 2 || d == 4 || d == 8) {
                    changes.add(new int[] {x, y});
                }
            }
        }
        return changes;
    }

    int worst(int what) {
        if (what < 0 || what > 2) {
            return BAD;
        }
        if (gates.isEmpty()) {
            return STATE;
        }
        int[] worst = null;
        for (int[] c : oneInputChanges()) {
            int flips = change(c[0], c[1], 0);
            if (worst == null || flips > worst[2]) {
                worst = new int[] {c[0], c[1], flips};
            }
        }
        return worst[what];
    }

    int glitches(int g) {
        if (g < 0 || g > 2) {
            return BAD;
        }
        if (gates.isEmpty()) {
            return STATE;
        }
        int found = 0;
        for (int[] c : oneInputChanges()) {
            found += change(c[0], c[1], 1) == g ? 1 : 0;
        }
        return found;
    }

    int path(int k) {
        if (k < 0) {
            return BAD;
        }
        if (gates.isEmpty()) {
            return STATE;
        }
        List<Integer> on = new ArrayList<>();
        int at = gates.size() - 1;
        while (at >= 0) {
            on.add(at);
            int first = gates.get(at)[1];
            int second = gates.get(at)[2];
            if (first < 0) {
                at = second;
            } else if (second < 0) {
                at = first;
            } else {
                at = pathOf(second) > pathOf(first) ? second : first;
            }
        }
        return k < on.size() ? on.get(k) : NONE;
    }

    int term(int cares, int wants) {
        if (cares < 0 || cares > 15 || wants < 0 || (wants | cares) != cares) {
            return BAD;
        }
        if (terms.size() == 8) {
            return FULL;
        }
        deed();
        terms.add(new int[] {cares, wants});
        return terms.size() - 1;
    }

    int off(int place) {
        if (place < 0 || place >= terms.size()) {
            return BAD;
        }
        deed();
        terms.remove(place);
        return terms.size();
    }

    private static boolean holds(int[] term, int x) {
        for (int input = 0; input < 4; input++) {
            int bit = 1 << input;
            if ((term[0] & bit) != 0 && (term[1] & bit) != (x & bit)) {
                return false;
            }
        }
        return true;
    }

    int termOf(int place, int what) {
        if (place < 0 || place >= terms.size() || what < 0 || what > 2) {
            return BAD;
        }
        if (what < 2) {
            return terms.get(place)[what];
        }
        int held = 0;
        for (int x = 0; x < 16; x++) {
            held += holds(terms.get(place), x) ? 1 << x : 0;
        }
        return held;
    }

    private static boolean isCovered(List<int[]> terms, int x) {
        for (int[] term : terms) {
            if (holds(term, x)) {
                return true;
            }
        }
        return false;
    }

    int covered(int what) {
        if (what < 0 || what > 1) {
            return BAD;
        }
        if (what == 1 && gates.isEmpty()) {
            return STATE;
        }
        int covered = 0;
        for (int x = 0; x < 16; x++) {
            covered += isCovered(terms, x) ? 1 << x : 0;
        }
        return what == 0 ? covered : covered == table() ? 1 : 0;
    }

    private static List<Integer> openOf(List<int[]> terms) {
        List<Integer> open = new ArrayList<>();
        for (int x = 0; x < 16; x++) {
            for (int input = 0; input < 4; input++) {
                int more = x | 1 << input;
                if (more == x || !isCovered(terms, x) || !isCovered(terms, more)) {
                    continue;
                }
                boolean both = false;
                for (int[] term : terms) {
                    both |= holds(term, x) && holds(term, more);
                }
                if (!both) {
                    open.add(16 * x + input);
                }
            }
        }
        return open;
    }

    int open(int k) {
        List<Integer> open = openOf(terms);
        if (k == NONE) {
            return open.size();
        }
        return k >= 0 && k < open.size() ? open.get(k) : -12;
    }

    private boolean holdsOnlyCovered(int cares, int wants) {
        for (int x = 0; x < 16; x++) {
            if (holds(new int[] {cares, wants}, x) && !isCovered(terms, x)) {
                return false;
            }
        }
        return true;
    }

    private List<int[]> primes() {
        List<int[]> primes = new ArrayList<>();
        for (int cares = 0; cares < 16; cares++) {
            for (int wants = 0; wants < 16; wants++) {
                if ((wants | cares) != cares || !holdsOnlyCovered(cares, wants)) {
                    continue;
                }
                boolean fewer = false;
                for (int part = 0; part < cares; part++) {
                    fewer |= (part | cares) == cares && holdsOnlyCovered(part, wants & part);
                }
                if (!fewer) {
                    primes.add(new int[] {cares, wants});
                }
            }
        }
        return primes;
    }

    int prime(int k) {
        List<int[]> primes = primes();
        if (k == NONE) {
            return primes.size();
        }
        return k >= 0 && k < primes.size() ? 16 * primes.get(k)[0] + primes.get(k)[1] : -12;
    }

    long added(int what) {
        if (what < 0 || what > 1) {
            return BAD;
        }
        List<int[]> primes = primes();
        long best = -1;
        for (long set = 0; set < 1L << primes.size(); set++) {
            if (best >= 0 && Long.bitCount(set) >= Long.bitCount(best)) {
                continue;
            }
            List<int[]> more = new ArrayList<>(terms);
            for (int i = 0; i < primes.size(); i++) {
                if ((set >> i & 1) == 1) {
                    more.add(primes.get(i));
                }
            }
            if (openOf(more).isEmpty()) {
                best = set;
            }
        }
        return what == 0 ? Long.bitCount(best) : best;
    }

    private static boolean noSheet(int sheet) {
        return sheet < 0 || sheet > 3;
    }

    private int sizeOf(int sheet) {
        return sheets[sheet] instanceof byte[] b ? b.length : ((int[]) sheets[sheet]).length;
    }

    private int itemOf(int sheet, int i) {
        return sheets[sheet] instanceof byte[] b ? b[i] : ((int[]) sheets[sheet])[i];
    }

    private int firstUnlike(int sheet, int xy) {
        int[] wave = waveOf(xy / 16, xy % 16);
        for (int i = 0; i < sizeOf(sheet); i++) {
            if (itemOf(sheet, i) != wave[i + 1]) {
                return i;
            }
        }
        return NONE;
    }

    int told(int sheet, int xy, int gate, int what) {
        if (noSheet(sheet) || xy < 0 || xy > 255 || xy / 16 == xy % 16 || what < 0 || what > 2) {
            return BAD;
        }
        if (what > 0 && noGate(gate)) {
            return BAD;
        }
        if (gates.isEmpty()) {
            return STATE;
        }
        if (sheets[sheet] == null) {
            return -11;
        }
        if (what == 0) {
            return firstUnlike(sheet, xy);
        }
        int field = what == 1 ? 3 : 0;
        int was = gates.get(gate)[field];
        int bits = 0;
        for (int v = what == 1 ? 1 : 0; v <= (what == 1 ? 9 : 5); v++) {
            gates.get(gate)[field] = v;
            bits += firstUnlike(sheet, xy) == NONE ? 1 << v : 0;
        }
        gates.get(gate)[field] = was;
        return bits;
    }

    int film(int sheet, int xy, int n) {
        if (noSheet(sheet) || xy < 0 || xy > 255 || xy / 16 == xy % 16 || n < 0 || n > 40) {
            return BAD;
        }
        if (gates.isEmpty()) {
            return STATE;
        }
        byte[] row = new byte[n];
        for (int t = 0; t < n; t++) {
            row[t] = (byte) wave(xy / 16, xy % 16, t);
        }
        sheets[sheet] = row;
        return n;
    }

    int undo() {
        if (ahead.isEmpty()) {
            return STATE;
        }
        restore(ahead.remove(ahead.size() - 1));
        return ahead.size();
    }

    int image() {
        kept = snapshot();
        return gates.size();
    }

    int back() {
        if (kept == null) {
            return STATE;
        }
        restore(kept);
        ahead.clear();
        return gates.size();
    }

    int count(int what) {
        int[] counts = {gates.size(), terms.size(), ahead.size(), tape.length()};
        return what >= 0 && what < 4 ? counts[what] : BAD;
    }

    int sheet(int sheet, int sort, int n) {
        if (noSheet(sheet) || sort < -1 || sort > 1 || sort >= 0 && n > 40) {
            return BAD;
        }
        if (sort >= 0 && n < 0) {
            return -14;
        }
        sheets[sheet] = sort < 0 ? null : sort == 0 ? new byte[n] : new int[n];
        return 1;
    }

    int put(int sheet, int i, int v) {
        if (noSheet(sheet)) {
            return BAD;
        }
        if (sheets[sheet] == null) {
            return -11;
        }
        if (i < 0 || i >= sizeOf(sheet)) {
            return -12;
        }
        if (sheets[sheet] instanceof byte[] b) {
            b[i] = (byte) v;
        } else {
            ((int[]) sheets[sheet])[i] = v;
        }
        return 1;
    }

    int copy(int sheet, int i, int other, int j, int n) {
        if (noSheet(sheet) || noSheet(other)) {
            return BAD;
        }
        if (sheets[sheet] == null || sheets[other] == null) {
            return -11;
        }
        if (sheets[sheet] instanceof byte[] != sheets[other] instanceof byte[]) {
            return -13;
        }
        if (i < 0 || j < 0 || n < 0 || (long) i + n > sizeOf(sheet) || (long) j + n > sizeOf(other)) {
            return -12;
        }
        int[] were = new int[n];
        for (int m = 0; m < n; m++) {
            were[m] = itemOf(sheet, i + m);
        }
        for (int m = 0; m < n; m++) {
            put(other, j + m, were[m]);
        }
        return n;
    }

    int load(int sheet, int sort, int from, int n) {
        if (noSheet(sheet) || sort < 0 || sort > 1 || n < 0 || n > 8) {
            return BAD;
        }
        if (sheets[sheet] == null) {
            return -11;
        }
        if (sheets[sheet] instanceof byte[] != (sort == 0)) {
            return -13;
        }
        int came = 0;
        for (int m = 0; m < n; m++) {
            long place = (long) from + 2 * m;
            if (place < 0 || place + 1 >= sizeOf(sheet)) {
                return -12;
            }
            if (term(itemOf(sheet, (int) place), itemOf(sheet, (int) place + 1)) >= 0) {
                came++;
            }
        }
        return came;
    }
}
