/** Finds glitches in nets of gates with delays; ../shared/DOC.md says what each call answers. */
public final class GlitchNets {
    public static final int NONE = -1, BAD = -2, STATE = -3, FULL = -4;

    private static final int SHEET_MISSING = -11;
    private static final int OUTSIDE = -12;
    private static final int OTHER_SORT = -13;
    private static final int SIZE_BELOW_ZERO = -14;
    private static final int FAULT_BASE = -100;

    private static final int INPUTS = 4;
    private static final int STANDS = 16;
    private static final int ALL_STANDS = 0xFFFF;
    /** By input: for each way how inputs stand a bit, what that input tells then. */
    private static final int[] INPUT_TABLES = {0xAAAA, 0xCCCC, 0xF0F0, 0xFF00};

    private static final int AND = 0, NAND = 1, OR = 2, NOR = 3, XOR = 4, NOT = 5;
    private static final int KINDS = 6;
    private static final int LEAST_DELAY = 1;
    private static final int MOST_DELAY = 9;

    private static final int FED_AT_ONCE = 5;
    private static final int MOST_BYTE = 255;
    private static final int SHEETS = 4;
    private static final int LOADED_AT_ONCE = 8;

    private final Tape tape = new Tape();
    private final GateText gateText = new GateText();
    private final Net net = new Net();
    private final Net trial = new Net();
    private final Wave outputWave = new Wave();
    private final Cover cover = new Cover();
    private final Primes primes = new Primes();
    private final Deeds deeds = new Deeds();
    private final Net keptNet = new Net();
    private final Cover keptCover = new Cover();
    private boolean imageKept;
    private final Sheet[] sheets = new Sheet[SHEETS];

    public GlitchNets() {
        for (int i = 0; i < SHEETS; i++) {
            sheets[i] = new Sheet();
        }
    }

    // ---- texts, gates

    public int feed(int n, int a, int b, int c, int d, int e) {
        if (!isWithin(n, 1, FED_AT_ONCE) || !isByte(a) || !isByte(b) || !isByte(c) || !isByte(d) || !isByte(e)) {
            return BAD;
        }
        if (n > tape.room()) {
            return FULL;
        }
        tape.append(a);
        if (n > 1) {
            tape.append(b);
        }
        if (n > 2) {
            tape.append(c);
        }
        if (n > 3) {
            tape.append(d);
        }
        if (n > 4) {
            tape.append(e);
        }
        return tape.size;
    }

    public int text() {
        int fault = gateText.read(tape, net.size);
        tape.size = 0;
        if (fault != NONE) {
            return FAULT_BASE - fault;
        }
        if (net.isFull()) {
            return FULL;
        }
        net.append(gateText.kind, gateText.first, gateText.second, gateText.delay);
        deeds.note(Deeds.GATE_CAME, net.output(), 0, 0);
        return net.output();
    }

    public int delay(int gate, int v) {
        if (!net.has(gate) || !isWithin(v, LEAST_DELAY, MOST_DELAY)) {
            return BAD;
        }
        int before = net.delays[gate];
        net.delays[gate] = v;
        deeds.note(Deeds.DELAY_TOLD, gate, before, 0);
        return before;
    }

    public int drop() {
        if (net.isEmpty()) {
            return STATE;
        }
        net.removeLast();
        deeds.size = 0;
        return net.size;
    }

    public int gate(int gate, int what) {
        if (!net.has(gate)) {
            return BAD;
        }
        switch (what) {
            case 0: return net.kinds[gate];
            case 1: return net.firsts[gate];
            case 2: return net.seconds[gate];
            case 3: return net.delays[gate];
            case 4: return net.pathTo(gate);
            case 5: return net.usersOf(gate);
            default: return BAD;
        }
    }

    public int taken(int gate, int k) {
        if (!net.has(gate) || !isWithin(k, 0, KINDS - 1)) {
            return BAD;
        }
        return isKindOrUnder(net.kinds[gate], k) ? net.delays[gate] : OTHER_SORT;
    }

    // ---- waves

    public int tells(int gate, int inputs) {
        if (!net.has(gate) || !isStand(inputs)) {
            return BAD;
        }
        return net.tableOf(gate) >> inputs & 1;
    }

    public int table() {
        return net.isEmpty() ? STATE : net.tableOf(net.output());
    }

    public int wave(int x, int y, int time) {
        if (!isChange(x, y) || !isWithin(time, 0, Wave.LAST)) {
            return BAD;
        }
        if (net.isEmpty()) {
            return STATE;
        }
        outputWave.run(net, x, y);
        return outputWave.at(time);
    }

    public int change(int x, int y, int what) {
        if (!isChange(x, y) || !isWithin(what, 0, 2)) {
            return BAD;
        }
        if (net.isEmpty()) {
            return STATE;
        }
        outputWave.run(net, x, y);
        switch (what) {
            case 0: return outputWave.flips();
            case 1: return outputWave.glitch();
            default: return outputWave.settles();
        }
    }

    public int worst(int what) {
        if (!isWithin(what, 0, 2)) {
            return BAD;
        }
        if (net.isEmpty()) {
            return STATE;
        }
        int worstX = 0;
        int worstY = 0;
        int mostFlips = -1;
        for (int x = 0; x < STANDS; x++) {
            for (int y = 0; y < STANDS; y++) {
                if (!isOneInputChange(x, y)) {
                    continue;
                }
                outputWave.run(net, x, y);
                int flips = outputWave.flips();
                if (flips > mostFlips) {
                    mostFlips = flips;
                    worstX = x;
                    worstY = y;
                }
            }
        }
        switch (what) {
            case 0: return worstX;
            case 1: return worstY;
            default: return mostFlips;
        }
    }

    public int glitches(int g) {
        if (!isWithin(g, 0, 2)) {
            return BAD;
        }
        if (net.isEmpty()) {
            return STATE;
        }
        int found = 0;
        for (int x = 0; x < STANDS; x++) {
            for (int y = 0; y < STANDS; y++) {
                if (!isOneInputChange(x, y)) {
                    continue;
                }
                outputWave.run(net, x, y);
                if (outputWave.glitch() == g) {
                    found++;
                }
            }
        }
        return found;
    }

    public int path(int k) {
        if (k < 0) {
            return BAD;
        }
        if (net.isEmpty()) {
            return STATE;
        }
        net.findPaths();
        int gate = net.output();
        for (int i = 0; i < k && gate != NONE; i++) {
            gate = net.backOnPath(gate);
        }
        return gate;
    }

    // ---- covers

    public int term(int cares, int wants) {
        return addTerm(cares, wants);
    }

    public int off(int place) {
        if (!cover.has(place)) {
            return BAD;
        }
        deeds.note(Deeds.TERM_WENT, place, cover.cares[place], cover.wants[place]);
        cover.remove(place);
        return cover.size;
    }

    public int termOf(int place, int what) {
        if (!cover.has(place)) {
            return BAD;
        }
        switch (what) {
            case 0: return cover.cares[place];
            case 1: return cover.wants[place];
            case 2: return held(cover.cares[place], cover.wants[place]);
            default: return BAD;
        }
    }

    public int covered(int what) {
        if (!isWithin(what, 0, 1)) {
            return BAD;
        }
        if (what == 0) {
            return cover.stands();
        }
        if (net.isEmpty()) {
            return STATE;
        }
        return cover.stands() == net.tableOf(net.output()) ? 1 : 0;
    }

    public int open(int k) {
        long pairs = cover.openPairs();
        if (k == NONE) {
            return Long.bitCount(pairs);
        }
        int ahead = 0;
        for (int x = 0; x < STANDS; x++) {
            for (int input = 0; input < INPUTS; input++) {
                if (!hasPair(pairs, x, input)) {
                    continue;
                }
                if (ahead == k) {
                    return STANDS * x + input;
                }
                ahead++;
            }
        }
        return OUTSIDE;
    }

    public int prime(int k) {
        primes.find(cover.stands());
        if (k == NONE) {
            return primes.size;
        }
        if (!isWithin(k, 0, primes.size - 1)) {
            return OUTSIDE;
        }
        return STANDS * primes.cares[k] + primes.wants[k];
    }

    public long added(int what) {
        if (!isWithin(what, 0, 1)) {
            return BAD;
        }
        primes.find(cover.stands());
        long set = primes.fewestHolding(cover.openPairs());
        return what == 0 ? Long.bitCount(set) : set;
    }

    // ---- what was told

    public int told(int sheet, int xy, int gate, int what) {
        if (!isSheet(sheet) || !isChangeCode(xy) || !isWithin(what, 0, 2) || (what != 0 && !net.has(gate))) {
            return BAD;
        }
        if (net.isEmpty()) {
            return STATE;
        }
        Sheet seen = sheets[sheet];
        if (seen.isMissing()) {
            return SHEET_MISSING;
        }
        switch (what) {
            case 0: return firstUnlike(seen, net, xy);
            case 1: return fittingDelays(seen, xy, gate);
            default: return fittingKinds(seen, xy, gate);
        }
    }

    public int film(int sheet, int xy, int n) {
        if (!isSheet(sheet) || !isChangeCode(xy) || !isWithin(n, 0, Sheet.MOST)) {
            return BAD;
        }
        if (net.isEmpty()) {
            return STATE;
        }
        Sheet row = sheets[sheet];
        row.become(Sheet.BYTES, n);
        outputWave.run(net, xFrom(xy), yFrom(xy));
        for (int time = 0; time < n; time++) {
            row.set(time, outputWave.at(time));
        }
        return n;
    }

    public int undo() {
        if (deeds.size == 0) {
            return STATE;
        }
        int latest = deeds.takeLatest();
        int place = deeds.places[latest];
        switch (deeds.sorts[latest]) {
            case Deeds.GATE_CAME:
                net.removeLast();
                break;
            case Deeds.DELAY_TOLD:
                net.setDelay(place, deeds.firsts[latest]);
                break;
            case Deeds.TERM_CAME:
                cover.remove(place);
                break;
            default:
                cover.insert(place, deeds.firsts[latest], deeds.seconds[latest]);
                break;
        }
        return deeds.size;
    }

    public int image() {
        keptNet.become(net);
        keptCover.become(cover);
        imageKept = true;
        return net.size;
    }

    public int back() {
        if (!imageKept) {
            return STATE;
        }
        net.become(keptNet);
        cover.become(keptCover);
        deeds.size = 0;
        return net.size;
    }

    public int count(int what) {
        switch (what) {
            case 0: return net.size;
            case 1: return cover.size;
            case 2: return deeds.size;
            case 3: return tape.size;
            default: return BAD;
        }
    }

    // ---- the host

    public int sheet(int sheet, int sort, int n) {
        if (!isSheet(sheet)) {
            return BAD;
        }
        if (sort == Sheet.MISSING) {
            sheets[sheet].become(Sheet.MISSING, 0);
            return 1;
        }
        if (!isSort(sort) || n > Sheet.MOST) {
            return BAD;
        }
        if (n < 0) {
            return SIZE_BELOW_ZERO;
        }
        sheets[sheet].become(sort, n);
        return 1;
    }

    public int put(int sheet, int i, int v) {
        if (!isSheet(sheet)) {
            return BAD;
        }
        Sheet row = sheets[sheet];
        if (row.isMissing()) {
            return SHEET_MISSING;
        }
        if (!row.has(i)) {
            return OUTSIDE;
        }
        row.set(i, v);
        return 1;
    }

    public int copy(int sheet, int i, int other, int j, int n) {
        if (!isSheet(sheet) || !isSheet(other)) {
            return BAD;
        }
        Sheet from = sheets[sheet];
        Sheet to = sheets[other];
        if (from.isMissing() || to.isMissing()) {
            return SHEET_MISSING;
        }
        if (from.sort != to.sort) {
            return OTHER_SORT;
        }
        if (!from.hasRun(i, n) || !to.hasRun(j, n)) {
            return OUTSIDE;
        }
        System.arraycopy(from.items, i, to.items, j, n);
        return n;
    }

    public int load(int sheet, int sort, int from, int n) {
        if (!isSheet(sheet) || !isSort(sort) || !isWithin(n, 0, LOADED_AT_ONCE)) {
            return BAD;
        }
        Sheet row = sheets[sheet];
        if (row.isMissing()) {
            return SHEET_MISSING;
        }
        if (row.sort != sort) {
            return OTHER_SORT;
        }
        int came = 0;
        for (int k = 0; k < n; k++) {
            int place = from + 2 * k;
            if (!row.hasRun(place, 2)) {
                return OUTSIDE;
            }
            if (addTerm(row.items[place], row.items[place + 1]) >= 0) {
                came++;
            }
        }
        return came;
    }

    // ---- what several calls need

    private int addTerm(int cares, int wants) {
        if (!isStand(cares) || (wants & ~cares) != 0) {
            return BAD;
        }
        if (cover.isFull()) {
            return FULL;
        }
        int place = cover.size;
        cover.insert(place, cares, wants);
        deeds.note(Deeds.TERM_CAME, place, 0, 0);
        return place;
    }

    private int firstUnlike(Sheet seen, Net tried, int xy) {
        outputWave.run(tried, xFrom(xy), yFrom(xy));
        for (int time = 0; time < seen.size; time++) {
            if (seen.items[time] != outputWave.at(time)) {
                return time;
            }
        }
        return NONE;
    }

    private int fittingDelays(Sheet seen, int xy, int gate) {
        int fitting = 0;
        trial.become(net);
        for (int delay = LEAST_DELAY; delay <= MOST_DELAY; delay++) {
            trial.setDelay(gate, delay);
            if (firstUnlike(seen, trial, xy) == NONE) {
                fitting |= 1 << delay;
            }
        }
        return fitting;
    }

    private int fittingKinds(Sheet seen, int xy, int gate) {
        int fitting = 0;
        trial.become(net);
        for (int kind = 0; kind < KINDS; kind++) {
            trial.setKind(gate, kind);
            if (firstUnlike(seen, trial, xy) == NONE) {
                fitting |= 1 << kind;
            }
        }
        return fitting;
    }

    private static boolean isWithin(int v, int least, int most) {
        return v >= least && v <= most;
    }

    private static boolean isByte(int v) {
        return isWithin(v, 0, MOST_BYTE);
    }

    private static boolean isStand(int inputs) {
        return isWithin(inputs, 0, STANDS - 1);
    }

    private static boolean isChange(int x, int y) {
        return isStand(x) && isStand(y) && x != y;
    }

    private static boolean isChangeCode(int xy) {
        return isWithin(xy, 0, MOST_BYTE) && xFrom(xy) != yFrom(xy);
    }

    private static int xFrom(int xy) {
        return xy >> 4;
    }

    private static int yFrom(int xy) {
        return xy & 15;
    }

    private static boolean isOneInputChange(int x, int y) {
        return Integer.bitCount(x ^ y) == 1;
    }

    private static boolean isSheet(int sheet) {
        return isWithin(sheet, 0, SHEETS - 1);
    }

    private static boolean isSort(int sort) {
        return sort == Sheet.BYTES || sort == Sheet.INTS;
    }

    private static boolean isKindOrUnder(int kind, int over) {
        return kind == over || (kind == NAND && over == AND) || (kind == NOR && over == OR);
    }

    private static String wordOf(int kind) {
        switch (kind) {
            case AND: return "and";
            case NAND: return "nand";
            case OR: return "or";
            case NOR: return "nor";
            case XOR: return "xor";
            default: return "not";
        }
    }

    /** Works on all bits at once, so that a whole table or many times of a wave take one step. */
    private static long combined(int kind, long first, long second) {
        switch (kind) {
            case AND: return first & second;
            case NAND: return ~(first & second);
            case OR: return first | second;
            case NOR: return ~(first | second);
            case XOR: return first ^ second;
            default: return ~first;
        }
    }

    /** The ways how inputs stand that a term holds, a bit each. */
    private static int held(int cares, int wants) {
        int held = ALL_STANDS;
        for (int input = 0; input < INPUTS; input++) {
            if ((cares >> input & 1) == 0) {
                continue;
            }
            boolean wanted = (wants >> input & 1) != 0;
            held &= wanted ? INPUT_TABLES[input] : ~INPUT_TABLES[input];
        }
        return held;
    }

    /** The pairs with both sides among these: 16 bits an input, by the side that lacks it. */
    private static long pairsAmong(int stands) {
        long pairs = 0;
        for (int input = 0; input < INPUTS; input++) {
            int withInputMore = stands >> (1 << input);
            long lacking = stands & withInputMore & ~INPUT_TABLES[input];
            pairs |= lacking << STANDS * input;
        }
        return pairs;
    }

    private static boolean hasPair(long pairs, int x, int input) {
        return (pairs >>> STANDS * input + x & 1) != 0;
    }

    /** The bytes that were fed and not yet read. */
    private static final class Tape {
        static final int MOST = 30;

        final int[] bytes = new int[MOST];
        int size;

        int room() {
            return MOST - size;
        }

        void append(int v) {
            if (size < MOST) {
                bytes[size] = v;
                size++;
            }
        }

        boolean hasLetter(int place) {
            return place < size && bytes[place] >= 'a' && bytes[place] <= 'z';
        }

        boolean hasDigit(int place) {
            return place < size && bytes[place] >= '0' && bytes[place] <= '9';
        }

        boolean hasBlank(int place) {
            return place < size && bytes[place] == ' ';
        }

        /** Behind the word, number or other byte that begins at this place; the place itself at the tape's end. */
        int endOfPiece(int start) {
            if (start >= size) {
                return start;
            }
            boolean letters = hasLetter(start);
            boolean digits = hasDigit(start);
            int end = start + 1;
            while (end < size && (letters && hasLetter(end) || digits && hasDigit(end))) {
                end++;
            }
            return end;
        }

        boolean spells(int start, int end, String word) {
            if (end - start != word.length()) {
                return false;
            }
            for (int i = 0; i < word.length(); i++) {
                if (bytes[start + i] != word.charAt(i)) {
                    return false;
                }
            }
            return true;
        }
    }

    /** Reads a gate from a tape, piece by piece. */
    private static final class GateText {
        private static final int NO_SOURCE = -1 - INPUTS;

        int kind;
        int first;
        int second;
        int delay;
        private int start;
        private int end;

        /** NONE, or the text's fault; at the end a piece is empty and begins at the text's size. */
        int read(Tape tape, int gates) {
            end = 0;
            nextPiece(tape);
            kind = kindRead(tape);
            if (kind == NONE) {
                return start;
            }
            nextPiece(tape);
            first = sourceRead(tape, gates);
            if (first == NO_SOURCE) {
                return start;
            }
            second = first;
            if (kind != NOT) {
                nextPiece(tape);
                second = sourceRead(tape, gates);
                if (second == NO_SOURCE) {
                    return start;
                }
            }
            nextPiece(tape);
            delay = numberRead(tape);
            if (!isWithin(delay, LEAST_DELAY, MOST_DELAY)) {
                return start;
            }
            nextPiece(tape);
            return start < tape.size ? start : NONE;
        }

        private void nextPiece(Tape tape) {
            start = end;
            while (start < tape.size && tape.hasBlank(start)) {
                start++;
            }
            end = tape.endOfPiece(start);
        }

        private int kindRead(Tape tape) {
            for (int k = 0; k < KINDS; k++) {
                if (tape.spells(start, end, wordOf(k))) {
                    return k;
                }
            }
            return NONE;
        }

        private int sourceRead(Tape tape, int gates) {
            if (tape.hasLetter(start)) {
                int input = tape.bytes[start] - 'a';
                return end - start == 1 && input < INPUTS ? -1 - input : NO_SOURCE;
            }
            int number = numberRead(tape);
            return number != NONE && number < gates ? number : NO_SOURCE;
        }

        /** NONE where no number stands, or one of more than two digits. */
        private int numberRead(Tape tape) {
            if (!tape.hasDigit(start) || end - start > 2) {
                return NONE;
            }
            int number = 0;
            for (int place = start; place < end && tape.hasDigit(place); place++) {
                number = 10 * number + tape.bytes[place] - '0';
            }
            return number;
        }
    }

    /** The gates. A source is a gate's number, or -1 less the input; in rows of inputs and gates it lies at INPUTS + source. */
    private static final class Net {
        static final int MOST = 12;
        static final int ROWS = INPUTS + MOST;

        final int[] kinds = new int[MOST];
        final int[] firsts = new int[MOST];
        final int[] seconds = new int[MOST];
        final int[] delays = new int[MOST];
        int size;
        private final int[] tables = new int[ROWS];
        private final int[] paths = new int[ROWS];

        Net() {
            for (int input = 0; input < INPUTS; input++) {
                tables[INPUTS - 1 - input] = INPUT_TABLES[input];
            }
        }

        boolean has(int gate) {
            return gate >= 0 && gate < size;
        }

        boolean isEmpty() {
            return size == 0;
        }

        boolean isFull() {
            return size >= MOST;
        }

        int output() {
            return size - 1;
        }

        /** A NOT is to have its first source for its second, too: so it can be tried as another kind. */
        void append(int kind, int first, int second, int delay) {
            if (isFull()) {
                return;
            }
            kinds[size] = kind;
            firsts[size] = first;
            seconds[size] = second;
            delays[size] = delay;
            size++;
        }

        void removeLast() {
            if (size > 0) {
                size--;
            }
        }

        void setDelay(int gate, int delay) {
            if (has(gate)) {
                delays[gate] = delay;
            }
        }

        void setKind(int gate, int kind) {
            if (has(gate)) {
                kinds[gate] = kind;
            }
        }

        void become(Net other) {
            System.arraycopy(other.kinds, 0, kinds, 0, MOST);
            System.arraycopy(other.firsts, 0, firsts, 0, MOST);
            System.arraycopy(other.seconds, 0, seconds, 0, MOST);
            System.arraycopy(other.delays, 0, delays, 0, MOST);
            size = other.size;
        }

        void findTables() {
            for (int gate = 0; gate < size; gate++) {
                long first = tables[INPUTS + firsts[gate]];
                long second = tables[INPUTS + seconds[gate]];
                tables[INPUTS + gate] = (int) (combined(kinds[gate], first, second) & ALL_STANDS);
            }
        }

        int tableOf(int gate) {
            findTables();
            return has(gate) ? tables[INPUTS + gate] : 0;
        }

        /** What the input or gate of a row tells; findTables() goes ahead of it. */
        int rowTells(int row, int inputs) {
            return tables[row] >> inputs & 1;
        }

        void findPaths() {
            for (int gate = 0; gate < size; gate++) {
                int longer = Math.max(paths[INPUTS + firsts[gate]], paths[INPUTS + seconds[gate]]);
                paths[INPUTS + gate] = longer + delays[gate];
            }
        }

        int pathTo(int gate) {
            findPaths();
            return has(gate) ? paths[INPUTS + gate] : 0;
        }

        /** The gate ahead on a gate's path, or NONE; findPaths() goes ahead of it. */
        int backOnPath(int gate) {
            if (!has(gate)) {
                return NONE;
            }
            int first = firsts[gate];
            int second = seconds[gate];
            int source = paths[INPUTS + second] > paths[INPUTS + first] ? second : first;
            return has(source) ? source : NONE;
        }

        int usersOf(int gate) {
            int users = 0;
            for (int user = 0; user < size; user++) {
                if (firsts[user] == gate || seconds[user] == gate) {
                    users++;
                }
            }
            return users;
        }
    }

    /** What inputs and gates tell in a change: a bit a time, times 0 .. 63 in lows, those behind in highs. */
    private static final class Wave {
        static final int LAST = 108;
        private static final int HALF = 64;

        private final long[] lows = new long[Net.ROWS];
        private final long[] highs = new long[Net.ROWS];
        private int output;
        private int ahead;

        void run(Net net, int x, int y) {
            net.findTables();
            for (int row = 0; row < INPUTS; row++) {
                lows[row] = -net.rowTells(row, y);
                highs[row] = lows[row];
            }
            for (int gate = 0; gate < net.size; gate++) {
                runGate(net, gate, x);
            }
            output = INPUTS + net.output();
            ahead = net.rowTells(output, x);
        }

        private void runGate(Net net, int gate, int x) {
            int kind = net.kinds[gate];
            int delay = net.delays[gate];
            int first = INPUTS + net.firsts[gate];
            int second = INPUTS + net.seconds[gate];
            lows[INPUTS + gate] = combined(kind,
                    lateLow(first, delay, net.rowTells(first, x)),
                    lateLow(second, delay, net.rowTells(second, x)));
            highs[INPUTS + gate] = combined(kind, lateHigh(first, delay), lateHigh(second, delay));
        }

        private long lateLow(int row, int delay, int toldAhead) {
            long early = toldAhead == 0 ? 0 : (1L << delay) - 1;
            return lows[row] << delay | early;
        }

        private long lateHigh(int row, int delay) {
            return highs[row] << delay | lows[row] >>> HALF - delay;
        }

        /** What the output tells at a time; ahead of 0 as it was. */
        int at(int time) {
            if (time < 0) {
                return ahead;
            }
            long from = time < HALF ? lows[output] >>> time : highs[output] >>> time - HALF;
            return (int) (from & 1);
        }

        /** The bits behind LAST count too, but no flip is among them. */
        int flips() {
            long low = lows[output];
            long high = highs[output];
            return Long.bitCount(low ^ (low << 1 | ahead)) + Long.bitCount(high ^ (high << 1 | low >>> HALF - 1));
        }

        int glitch() {
            int flips = flips();
            if (at(LAST) == ahead) {
                return flips > 0 ? 1 : 0;
            }
            return flips > 1 ? 2 : 0;
        }

        int settles() {
            for (int time = LAST; time >= 0; time--) {
                if (at(time) != at(time - 1)) {
                    return time;
                }
            }
            return NONE;
        }
    }

    /** The terms as they came. */
    private static final class Cover {
        static final int MOST = 8;

        final int[] cares = new int[MOST];
        final int[] wants = new int[MOST];
        int size;

        boolean has(int place) {
            return place >= 0 && place < size;
        }

        boolean isFull() {
            return size >= MOST;
        }

        void insert(int place, int caresThere, int wantsThere) {
            if (isFull() || place < 0 || place > size) {
                return;
            }
            for (int i = size; i > place; i--) {
                cares[i] = cares[i - 1];
                wants[i] = wants[i - 1];
            }
            cares[place] = caresThere;
            wants[place] = wantsThere;
            size++;
        }

        void remove(int place) {
            if (!has(place)) {
                return;
            }
            size--;
            for (int i = place; i < size; i++) {
                cares[i] = cares[i + 1];
                wants[i] = wants[i + 1];
            }
        }

        void become(Cover other) {
            System.arraycopy(other.cares, 0, cares, 0, MOST);
            System.arraycopy(other.wants, 0, wants, 0, MOST);
            size = other.size;
        }

        int stands() {
            int stands = 0;
            for (int i = 0; i < size; i++) {
                stands |= held(cares[i], wants[i]);
            }
            return stands;
        }

        long openPairs() {
            long pairs = pairsAmong(stands());
            for (int i = 0; i < size; i++) {
                pairs &= ~pairsAmong(held(cares[i], wants[i]));
            }
            return pairs;
        }
    }

    /** The prime terms of what is covered, in their order. */
    private static final class Primes {
        static final int MOST = 32;

        final int[] cares = new int[MOST];
        final int[] wants = new int[MOST];
        int size;
        private final long[] pairs = new long[MOST];
        /** At n the pairs that the first n primes hold. */
        private final long[] reach = new long[MOST + 1];

        void find(int stands) {
            size = 0;
            for (int c = 0; c < STANDS; c++) {
                for (int w = 0; w <= c; w++) {
                    if ((w & ~c) == 0 && isPrime(c, w, stands)) {
                        append(c, w);
                    }
                }
            }
        }

        /** Taking one care away is enough to look at: with more away a term holds still more. */
        private static boolean isPrime(int cares, int wants, int stands) {
            if (!holdsOnly(cares, wants, stands)) {
                return false;
            }
            for (int input = 0; input < INPUTS; input++) {
                int fewer = cares & ~(1 << input);
                if (fewer != cares && holdsOnly(fewer, wants & fewer, stands)) {
                    return false;
                }
            }
            return true;
        }

        private static boolean holdsOnly(int cares, int wants, int stands) {
            return (held(cares, wants) & ~stands) == 0;
        }

        private void append(int c, int w) {
            if (size >= MOST) {
                return;
            }
            cares[size] = c;
            wants[size] = w;
            pairs[size] = pairsAmong(held(c, w));
            reach[size + 1] = reach[size] | pairs[size];
            size++;
        }

        /** The bits of the fewest primes that hold all these pairs, of several such sets the least. */
        long fewestHolding(long open) {
            for (int most = 0; most <= size; most++) {
                long set = leastSet(pairs, reach, size, most, open);
                if (set != NONE) {
                    return set;
                }
            }
            return 0;
        }

        /** At most so many of the first primes, or NONE; tried without the last one first, since bits are to be least. */
        private static long leastSet(long[] pairs, long[] reach, int first, int most, long open) {
            if (open == 0) {
                return 0;
            }
            if (first <= 0 || first > MOST || most <= 0 || (open & ~reach[first]) != 0) {
                return NONE;
            }
            int last = first - 1;
            long without = leastSet(pairs, reach, last, most, open);
            if (without != NONE) {
                return without;
            }
            long rest = leastSet(pairs, reach, last, most - 1, open & ~pairs[last]);
            return rest == NONE ? NONE : rest | 1L << last;
        }
    }

    /** The latest deeds, the latest one last, each with what it changed as it was ahead of it. */
    private static final class Deeds {
        static final int GATE_CAME = 0, DELAY_TOLD = 1, TERM_CAME = 2, TERM_WENT = 3;
        private static final int MOST = 6;

        final int[] sorts = new int[MOST];
        final int[] places = new int[MOST];
        final int[] firsts = new int[MOST];
        final int[] seconds = new int[MOST];
        int size;

        void note(int sort, int place, int first, int second) {
            if (size >= MOST) {
                forgetEarliest();
            }
            sorts[size] = sort;
            places[size] = place;
            firsts[size] = first;
            seconds[size] = second;
            size++;
        }

        private void forgetEarliest() {
            for (int i = 1; i < size; i++) {
                sorts[i - 1] = sorts[i];
                places[i - 1] = places[i];
                firsts[i - 1] = firsts[i];
                seconds[i - 1] = seconds[i];
            }
            size--;
        }

        /** Where it lies in the rows; nothing is written there till the next note(). */
        int takeLatest() {
            if (size > 0) {
                size--;
            }
            return size;
        }
    }

    /** A row of numbers of a sort, or missing. */
    private static final class Sheet {
        static final int MISSING = -1, BYTES = 0, INTS = 1;
        static final int MOST = 40;

        final int[] items = new int[MOST];
        int sort = MISSING;
        int size;

        boolean isMissing() {
            return sort == MISSING;
        }

        boolean has(int place) {
            return place >= 0 && place < size;
        }

        boolean hasRun(int from, int n) {
            return from >= 0 && n >= 0 && from <= size - n;
        }

        void become(int newSort, int newSize) {
            if (newSize < 0 || newSize > MOST) {
                return;
            }
            sort = newSort;
            size = newSize;
            for (int i = 0; i < size; i++) {
                items[i] = 0;
            }
        }

        void set(int place, int v) {
            if (has(place)) {
                items[place] = sort == BYTES ? v & MOST_BYTE : v;
            }
        }
    }
}
