import java.util.function.LongUnaryOperator;

/** The bounds in "Promise 1" to "Promise 31": the last value that is taken and the first that isn't, at both ends. */
public final class PromiseBoundsTest {
    private static final int NONE = -1, BAD = -2, STATE = -3, FULL = -4;
    private static final int LEAST = Given.LEAST, MOST = Given.MOST;

    private PromiseBoundsTest() {
    }

    public static void main(String[] args) {
        promise1New();
        promise2Feed();
        promise3Text();
        promise4Delay();
        promise5Drop();
        promise6Gate();
        promise7Taken();
        promise8Tells();
        promise9Table();
        promise10Wave();
        promise11Change();
        promise12Worst();
        promise13Glitches();
        promise14Path();
        promise15Term();
        promise16Off();
        promise17TermOf();
        promise18Covered();
        promise19Open();
        promise20Prime();
        promise21Added();
        promise22Told();
        promise23Film();
        promise24Undo();
        promise25Image();
        promise26Back();
        promise27Count();
        promise28Sheet();
        promise29Put();
        promise30Copy();
        promise31Load();
        Due.end("PromiseBoundsTest");
    }

    /** All from the least to the most are taken; what is next to them, and what is farthest, is refused so. */
    private static void within(String what, long least, long most, long refusal, LongUnaryOperator call) {
        for (long v = least; v <= most; v++) {
            Due.holds(what + " " + v + " is taken", call.applyAsLong(v) != refusal);
        }
        for (long v : new long[] {least - 1, most + 1, LEAST, MOST}) {
            Due.is(what + " " + v, call.applyAsLong(v), refusal);
        }
    }

    private static void promise1New() {
        Due.by("No GATES, no TERMS.");
        GlitchNets nets = new GlitchNets();
        Due.is("GATES", nets.count(0), 0);
        Due.is("TERMS", nets.count(1), 0);
        Due.is("no GATE 0", nets.gate(0, 0), BAD);
        Due.is("no TERM 0", nets.termOf(0, 0), BAD);
        Due.is("nothing can go", nets.drop(), STATE);
        Due.is("no TERM can", nets.off(0), BAD);
        Due.is("the first GATE", Given.text(nets, "not a 1"), 0);
        Due.is("the first TERM", nets.term(1, 1), 0);
        Due.is("another object has none", new GlitchNets().count(0), 0);
    }

    private static int fed(long n, long a, long b, long c, long d, long e) {
        return new GlitchNets().feed((int) n, (int) a, (int) b, (int) c, (int) d, (int) e);
    }

    private static void promise2Feed() {
        Due.by("n bytes (1 .. 5; a, b, c, d, e, those first, each 0 .. 255, the others, too) come to THE TAPE: how many it has.");
        within("n", 1, 5, BAD, n -> fed(n, 0, 0, 0, 0, 0));
        for (int n = 1; n <= 5; n++) {
            int bytes = n;
            within("a of " + n, 0, 255, BAD, v -> fed(bytes, v, 255, 255, 255, 255));
            within("b of " + n, 0, 255, BAD, v -> fed(bytes, 0, v, 0, 0, 0));
            within("c of " + n, 0, 255, BAD, v -> fed(bytes, 255, 255, v, 255, 255));
            within("d of " + n, 0, 255, BAD, v -> fed(bytes, 0, 0, 0, v, 0));
            within("e of " + n, 0, 255, BAD, v -> fed(bytes, 255, 255, 255, 255, v));
            Due.is("how many", fed(n, 1, 1, 1, 1, 1), n);
        }
        for (int n = 1; n <= 5; n++) {
            GlitchNets nets = new GlitchNets();
            Given.feed(nets, "or ");
            nets.feed(n, 'a', ' ', 'b', '1', '!');
            int[] due = {-104, -105, -106, 0, -107};
            Due.is("those first, of " + n, nets.text(), due[n - 1]);
        }
        GlitchNets nets = new GlitchNets();
        nets.feed(3, 'n', 'o', 't', '!', '!');
        Due.is("three, then two", nets.feed(2, ' ', 'b', '!', '!', '!'), 5);
        Due.is("and one", nets.feed(1, '9', '!', '!', '!', '!'), 6);
        Due.is("come as they are told", nets.text(), 0);
        Due.is("SOURCE", nets.gate(0, 1), -2);
        Due.is("DELAY", nets.gate(0, 3), 9);

        Due.by("BAD; FULL: they have no room.");
        for (int have = 25; have <= 30; have++) {
            for (int n = 1; n <= 5; n++) {
                nets = new GlitchNets();
                for (int i = 0; i < have; i++) {
                    nets.feed(1, 32, 0, 0, 0, 0);
                }
                boolean room = have + n <= 30;
                Due.is(n + " more than " + have, nets.feed(n, 32, 32, 32, 32, 32), room ? have + n : FULL);
                Due.is("bytes", nets.count(3), room ? have + n : have);
                Due.is("BAD ahead of FULL", nets.feed(n, 32, 32, 32, 32, 256), BAD);
            }
        }
    }

    private static void promise3Text() {
        Due.by("THE TAPE, which is empty then (also by a FAULT, by FULL), is a TEXT: the GATE that comes; -100 less its FAULT; FULL (behind that).");
        GlitchNets nets = Given.twelve();
        nets.drop();
        String[] texts = {"not a 1", "not a 1", "not a 0", "", "not 11 1", "not 12 1"};
        int[] due = {11, FULL, -106, -100, FULL, -104};
        for (int i = 0; i < texts.length; i++) {
            Due.is("'" + texts[i] + "'", Given.text(nets, texts[i]), due[i]);
            Due.is("THE TAPE is empty by '" + texts[i] + "'", nets.count(3), 0);
            Due.is("no text behind it", nets.text(), -100);
        }
        for (int place = 0; place <= 29; place++) {
            nets = new GlitchNets();
            Given.feed(nets, " ".repeat(place) + "?");
            Due.is("-100 less the FAULT " + place, nets.text(), -100 - place);
            Given.feed(nets, " ".repeat(place + 1));
            Due.is("-100 less the size " + (place + 1), nets.text(), -101 - place);
        }
    }

    private static void promise4Delay() {
        Due.by("DELAY of a GATE becomes v: what it was. BAD.");
        GlitchNets nets = Given.net("not a 1", "not a 2", "not a 3");
        within("gate", 0, 2, BAD, gate -> nets.delay((int) gate, 4));
        within("v", 1, 9, BAD, v -> nets.delay(2, (int) v));
        Due.is("what it was", nets.delay(2, 1), 9);
        Due.is("what it was, the least", nets.delay(2, 9), 1);
        Due.is("the others are as they were", 10 * nets.gate(0, 3) + nets.gate(1, 3), 44);
        GlitchNets twelve = Given.twelve();
        within("gate of twelve", 0, 11, BAD, gate -> twelve.delay((int) gate, 1));
        within("gate of none", 0, -1, BAD, gate -> new GlitchNets().delay((int) gate, 1));
    }

    private static void promise5Drop() {
        Due.by("The GATE of the greatest number goes: how many are left. STATE: there is none.");
        GlitchNets nets = Given.twelve();
        for (int left = 11; left >= 0; left--) {
            Due.is("left", nets.drop(), left);
            Due.is("the greatest went", nets.gate(left, 0), BAD);
            Due.is("the one ahead stays", nets.gate(left - 1, 3), left == 0 ? BAD : 9);
        }
        Due.is("there is none", nets.drop(), STATE);
        Due.is("once more", nets.drop(), STATE);
        Due.is("the next GATE is 0", Given.text(nets, "not a 1"), 0);
        Due.is("just it", nets.drop(), 0);
    }

    private static void promise6Gate() {
        Due.by("KIND (what 0), FIRST (1), SECOND (2; of NOT as FIRST), DELAY (3), PATH (4), of how many GATES it is a source (5; one that has it twice counts once). BAD.");
        GlitchNets nets = Given.net("xor d a 9", "not 0 1");
        within("what", 0, 5, BAD, what -> nets.gate(1, (int) what));
        within("gate", 0, 1, BAD, gate -> nets.gate((int) gate, 0));
        within("gate by 5", 0, 1, BAD, gate -> nets.gate((int) gate, 5));
        GlitchNets twelve = Given.twelve();
        within("gate of twelve", 0, 11, BAD, gate -> twelve.gate((int) gate, 4));
        int[] first = {4, -4, -1, 9, 9, 1};
        int[] second = {5, 0, 0, 1, 10, 0};
        for (int what = 0; what <= 5; what++) {
            Due.is("GATE 0 by " + what, nets.gate(0, what), first[what]);
            Due.is("GATE 1 by " + what, nets.gate(1, what), second[what]);
        }
        GlitchNets users = Given.net("not a 1");
        Due.is("a source of none", users.gate(0, 5), 0);
        for (int i = 1; i <= 11; i++) {
            Given.text(users, i % 3 == 0 ? "or 0 0 1" : i % 3 == 1 ? "or 0 b 1" : "or b 0 1");
            Due.is("a source of " + i, users.gate(0, 5), i);
            Due.is("the new one is of none", users.gate(i, 5), 0);
        }
        users.drop();
        Due.is("one of them went", users.gate(0, 5), 10);
        Due.is("NOT has it twice", Given.net("not a 1", "not 0 1").gate(0, 5), 1);
        Due.is("INPUT a is no GATE 0", Given.net("not b 1", "or a a 1").gate(0, 5), 0);
    }

    private static void promise7Taken() {
        Due.by("A GATE taken for one of KIND k, or one under that: its DELAY. BAD: GATE, k; -13.");
        String[] texts = {"and a b 1", "nand a b 2", "or a b 3", "nor a b 4", "xor a b 5", "not a 9"};
        int[][] due = {
            {1, -13, -13, -13, -13, -13}, {2, 2, -13, -13, -13, -13}, {-13, -13, 3, -13, -13, -13},
            {-13, -13, 4, 4, -13, -13}, {-13, -13, -13, -13, 5, -13}, {-13, -13, -13, -13, -13, 9}
        };
        GlitchNets nets = Given.net(texts);
        for (int gate = 0; gate <= 5; gate++) {
            int taken = gate;
            for (int k = 0; k <= 5; k++) {
                Due.is(texts[gate] + " for " + k, nets.taken(gate, k), due[gate][k]);
            }
            within("k for " + gate, 0, 5, BAD, k -> nets.taken(taken, (int) k));
        }
        within("gate", 0, 5, BAD, gate -> nets.taken((int) gate, 0));
        nets.delay(1, 7);
        Due.is("its DELAY as it is now", nets.taken(1, 0), 7);
    }

    private static void promise8Tells() {
        Due.by("What a GATE tells as INPUTS stand. BAD.");
        GlitchNets nets = Given.hazard();
        within("gate", 0, 3, BAD, gate -> nets.tells((int) gate, 15));
        within("inputs", 0, 15, BAD, inputs -> nets.tells(0, (int) inputs));
        GlitchNets twelve = Given.twelve();
        within("gate of twelve", 0, 11, BAD, gate -> twelve.tells((int) gate, 0));
        within("gate of none", 0, -1, BAD, gate -> new GlitchNets().tells((int) gate, 0));
        for (int gate = 0; gate <= 11; gate++) {
            Due.is("GATE " + gate + " at 0", twelve.tells(gate, 0), 1);
            Due.is("GATE " + gate + " at 15", twelve.tells(gate, 15), gate % 2);
        }
    }

    private static void promise9Table() {
        Due.by("THE TABLE. STATE.");
        Due.is("no GATES", new GlitchNets().table(), STATE);
        Due.is("one", Given.net("xor a a 1").table(), 0);
        Due.is("twelve", Given.twelve().table(), 0xAA55);
        GlitchNets nets = Given.net("not a 1");
        nets.drop();
        Due.is("none any more", nets.table(), STATE);
    }

    private static void promise10Wave() {
        Due.by("THE WAVE of a CHANGE at a time (0 .. 108). BAD: x, y, the same, time; STATE.");
        GlitchNets nets = Given.net("not a 1");
        within("time", 0, 108, BAD, time -> nets.wave(0, 1, (int) time));
        within("x", 0, 14, BAD, x -> nets.wave((int) x, 15, 108));
        within("x", 1, 15, BAD, x -> nets.wave((int) x, 0, 108));
        within("y", 0, 14, BAD, y -> nets.wave(15, (int) y, 0));
        within("y", 1, 15, BAD, y -> nets.wave(0, (int) y, 0));
        for (int x = 0; x <= 15; x++) {
            for (int y = 0; y <= 15; y++) {
                Due.is("begins", nets.wave(x, y, 0), x == y ? BAD : 1 - x % 2);
                Due.is("ends", nets.wave(x, y, 108), x == y ? BAD : 1 - y % 2);
            }
        }
        GlitchNets none = new GlitchNets();
        Due.is("STATE at 0", none.wave(0, 15, 0), STATE);
        Due.is("STATE at 108", none.wave(15, 0, 108), STATE);
        Due.is("BAD at 109", none.wave(15, 0, 109), BAD);
        Due.is("BAD at -1", none.wave(15, 0, -1), BAD);
    }

    private static void promise11Change() {
        Due.by("Of a CHANGE: FLIPS (what 0), GLITCH (1), SETTLES (2; NONE). BAD: x, y, the same, what; STATE.");
        GlitchNets nets = Given.net("not a 7");
        within("what", 0, 2, BAD, what -> nets.change(0, 1, (int) what));
        within("x", 0, 14, BAD, x -> nets.change((int) x, 15, 0));
        within("x", 1, 15, BAD, x -> nets.change((int) x, 0, 0));
        within("y", 0, 14, BAD, y -> nets.change(15, (int) y, 2));
        within("y", 1, 15, BAD, y -> nets.change(0, (int) y, 2));
        Due.is("FLIPS", nets.change(0, 1, 0), 1);
        Due.is("GLITCH", nets.change(0, 1, 1), 0);
        Due.is("SETTLES", nets.change(0, 1, 2), 7);
        Due.is("no FLIPS", nets.change(0, 2, 0), 0);
        Due.is("no GLITCH", nets.change(0, 2, 1), 0);
        Due.is("SETTLES, NONE", nets.change(0, 2, 2), NONE);
        for (int what = 0; what <= 2; what++) {
            Due.is("STATE by " + what, new GlitchNets().change(0, 15, what), STATE);
        }
    }

    private static void promise12Worst() {
        Due.by("WORST (of 64 CHANGES, each way round): x (what 0), y (1), FLIPS (2). BAD; STATE.");
        GlitchNets nets = Given.net("xor a a 1");
        within("what", 0, 2, BAD, what -> nets.worst((int) what));
        within("what, without GATES", 0, 2, BAD, what -> new GlitchNets().worst((int) what));
        for (int what = 0; what <= 2; what++) {
            Due.is("STATE by " + what, new GlitchNets().worst(what), STATE);
        }
        for (int x = 0; x <= 15; x++) {
            for (int input = 0; input <= 3; input++) {
                worstIsAt(x, input);
            }
        }
    }

    /** A net that pulses by just one of the 64 changes: as an input comes or goes while the others stand as in x. */
    private static void worstIsAt(int x, int input) {
        char letter = (char) ('a' + input);
        boolean comes = (x >> input & 1) == 0;
        GlitchNets nets = Given.net("not " + letter + " 1", (comes ? "and " : "nor ") + letter + " 0 1");
        int pulse = 1;
        for (int other = 0; other <= 3; other++) {
            if (other == input) {
                continue;
            }
            String source = String.valueOf((char) ('a' + other));
            if ((x >> other & 1) == 0) {
                source = String.valueOf(Given.text(nets, "not " + source + " 9"));
            }
            pulse = Given.text(nets, "and " + pulse + " " + source + " 1");
        }
        int y = x ^ 1 << input;
        Due.is("x of " + x + " to " + y, nets.worst(0), x);
        Due.is("y of " + x + " to " + y, nets.worst(1), y);
        Due.is("FLIPS of " + x + " to " + y, nets.worst(2), 2);
        Due.is("the pulse of " + x + " to " + y, nets.glitches(1), 1);
        Due.is("none the other way of " + x + " to " + y, nets.change(y, x, 0), 0);
    }

    private static void promise13Glitches() {
        Due.by("How many of all CHANGES in which just one INPUT is otherwise have GLITCH g (0 .. 2). BAD; STATE.");
        GlitchNets nets = Given.hazard();
        within("g", 0, 2, BAD, g -> nets.glitches((int) g));
        within("g, without GATES", 0, 2, BAD, g -> new GlitchNets().glitches((int) g));
        Due.is("all", nets.glitches(0) + nets.glitches(1) + nets.glitches(2), 64);
        Due.is("none: all", Given.net("not a 1").glitches(0), 64);
        Due.is("none: no 1", Given.net("not a 1").glitches(1), 0);
        Due.is("none: no 2", Given.net("not a 1").glitches(2), 0);
        GlitchNets most = Given.net("xor a b 1", "xor c d 1", "xor 0 1 1", "not 2 1", "xor 2 3 1");
        Due.is("the most of 1", most.glitches(1), 64);
        most = Given.net("xor a b 1", "xor c d 1", "xor 0 1 1", "not 2 1", "xor 2 3 1", "xor 4 2 3");
        Due.is("the most of 2", most.glitches(2), 64);
        for (int g = 0; g <= 2; g++) {
            Due.is("STATE by " + g, new GlitchNets().glitches(g), STATE);
        }
        Due.is("two INPUTS at once do not count", Given.net("and a a 1", "xor 0 b 1").glitches(1), 0);
    }

    private static void promise14Path() {
        Due.by("The k-th GATE of PATH of THE OUTPUT (0: it); NONE: there is none. BAD: k is below 0; STATE.");
        GlitchNets twelve = Given.twelve();
        for (int k = 0; k <= 11; k++) {
            Due.is("path(" + k + ")", twelve.path(k), 11 - k);
        }
        for (int k : new int[] {12, 13, MOST}) {
            Due.is("path(" + k + ")", twelve.path(k), NONE);
        }
        Due.is("of one: it", Given.net("or a b 1").path(0), 0);
        Due.is("of one: behind it", Given.net("or a b 1").path(1), NONE);
        Due.is("the least k", twelve.path(LEAST), BAD);
        Due.is("k -1", twelve.path(-1), BAD);
        Due.is("STATE", new GlitchNets().path(0), STATE);
        Due.is("STATE for all k", new GlitchNets().path(MOST), STATE);
        Due.is("BAD ahead of it", new GlitchNets().path(-1), BAD);
    }

    private static void promise15Term() {
        Due.by("A TERM comes: its place. BAD: cares, wants; FULL.");
        within("cares", 0, 15, BAD, cares -> new GlitchNets().term((int) cares, 0));
        within("wants", 0, 15, BAD, wants -> new GlitchNets().term(15, (int) wants));
        within("wants of no cares", 0, 0, BAD, wants -> new GlitchNets().term(0, (int) wants));
        within("wants of cares 1", 0, 1, BAD, wants -> new GlitchNets().term(1, (int) wants));
        GlitchNets nets = new GlitchNets();
        for (int place = 0; place <= 7; place++) {
            Due.is("its place", nets.term(15, place), place);
        }
        Due.is("FULL", nets.term(15, 8), FULL);
        Due.is("cares ahead of FULL", nets.term(-1, 0), BAD);
        Due.is("wants ahead of FULL", nets.term(14, 1), BAD);
        Due.is("the last is as it was", nets.termOf(7, 1), 7);
    }

    private static GlitchNets unlike(int n) {
        GlitchNets nets = new GlitchNets();
        for (int i = 0; i < n; i++) {
            nets.term(15 - i, i % 2 == 0 ? 15 - i : 0);
        }
        return nets;
    }

    private static GlitchNets minterms(int n) {
        GlitchNets nets = new GlitchNets();
        for (int x = 0; x < n; x++) {
            nets.term(15, x);
        }
        return nets;
    }

    private static void promise16Off() {
        Due.by("The TERM at a place goes; those behind it move up: how many are left. BAD.");
        for (int n = 0; n <= 8; n++) {
            int terms = n;
            within("place of " + n, 0, n - 1, BAD, place -> minterms(terms).off((int) place));
            for (int place = 0; place < n; place++) {
                GlitchNets nets = unlike(n);
                Due.is("left", nets.off(place), n - 1);
                for (int i = 0; i < n - 1; i++) {
                    int was = i < place ? i : i + 1;
                    Due.is("CARES at " + i + " behind off(" + place + ") of " + n, nets.termOf(i, 0), 15 - was);
                    Due.is("WANTS at " + i, nets.termOf(i, 1), was % 2 == 0 ? 15 - was : 0);
                }
                Due.is("no more", nets.termOf(n - 1, 0), BAD);
            }
        }
    }

    private static void promise17TermOf() {
        Due.by("Of the TERM at a place: CARES (what 0), WANTS (1), what it holds (2; 16 bits). BAD.");
        for (int n = 0; n <= 8; n++) {
            GlitchNets nets = minterms(n);
            within("place of " + n, 0, n - 1, BAD, place -> nets.termOf((int) place, 0));
        }
        GlitchNets nets = Given.cover(9, 8, 0, 0, 15, 15);
        within("what", 0, 2, BAD, what -> nets.termOf(0, (int) what));
        Due.is("CARES", nets.termOf(0, 0), 9);
        Due.is("WANTS", nets.termOf(0, 1), 8);
        Due.is("what it holds", nets.termOf(0, 2), 0x5500);
        Due.is("all 16", nets.termOf(1, 2), 65535);
        Due.is("the highest alone", nets.termOf(2, 2), 32768);
    }

    private static void promise18Covered() {
        Due.by("COVERED (what 0), whether that is THE TABLE (1; 1, 0). BAD; STATE (by 1).");
        GlitchNets nets = Given.net("or a b 1");
        within("what", 0, 1, BAD, what -> nets.covered((int) what));
        within("what, without GATES", 0, 1, BAD, what -> new GlitchNets().covered((int) what));
        Due.is("by 0 without GATES", new GlitchNets().covered(0), 0);
        Due.is("by 1 without GATES", new GlitchNets().covered(1), STATE);
        nets.term(1, 1);
        Due.is("less than THE TABLE", nets.covered(1), 0);
        nets.term(3, 2);
        Due.is("THE TABLE", nets.covered(1), 1);
        nets.term(15, 4);
        Due.is("more than THE TABLE", nets.covered(1), 0);
        Due.is("both are empty", Given.net("xor a a 1").covered(1), 1);
        GlitchNets all = Given.net("xor a a 1", "not 0 1");
        Due.is("none of all", all.covered(1), 0);
        all.term(0, 0);
        Due.is("both are full", all.covered(1), 1);
    }

    private static void promise19Open() {
        Due.by("OPEN pairs: how many (k NONE), the k-th: 16 times x and the INPUT (0 .. 3). -12.");
        for (int n = 0; n <= 8; n++) {
            GlitchNets nets = minterms(n);
            int many = nets.open(NONE);
            int[] due = {0, 0, 1, 2, 4, 5, 7, 9, 12};
            Due.is("how many of " + n, many, due[n]);
            within("k of " + n, NONE, many - 1, -12, k -> nets.open((int) k));
        }
        Due.is("the least", Given.cover(15, 0, 15, 1).open(0), 0);
        Due.is("the greatest", Given.cover(15, 15, 15, 7).open(0), 16 * 7 + 3);
        Due.is("the greatest x", Given.cover(15, 15, 15, 14).open(0), 16 * 14);
    }

    private static void promise20Prime() {
        Due.by("PRIMES: how many (k NONE), the k-th: 16 times CARES and WANTS. -12.");
        int[] due = {0, 1, 1, 2, 1, 2, 2, 3, 1};
        for (int n = 0; n <= 8; n++) {
            GlitchNets nets = minterms(n);
            int many = nets.prime(NONE);
            Due.is("how many of " + n, many, due[n]);
            within("k of " + n, NONE, many - 1, -12, k -> nets.prime((int) k));
        }
        Due.is("the least", Given.cover(0, 0).prime(0), 0);
        Due.is("the greatest", Given.cover(15, 15).prime(0), 255);
    }

    private static void promise21Added() {
        Due.by("ADDED: how many (what 0), which (1; bits). BAD.");
        GlitchNets nets = Given.cover(3, 3, 6, 4);
        within("what", 0, 1, BAD, what -> nets.added((int) what));
        Due.is("how many", nets.added(0), 1);
        Due.is("which", nets.added(1), 2);
        GlitchNets none = new GlitchNets();
        within("what of none", 0, 1, BAD, what -> none.added((int) what));
    }

    private static void promise22Told() {
        Due.by("TOLD of the CHANGE from x to y (xy: 16 times x, and y; below 0 or above 255 no x): the first (what 0; NONE), DELAYS (1), KINDS (2) of a GATE (by 0 gate does not matter).");
        GlitchNets nets = Given.hazard();
        for (int sheet = 0; sheet <= 3; sheet++) {
            nets.film(sheet, 0x75, 10);
        }
        within("sheet", 0, 3, BAD, sheet -> nets.told((int) sheet, 0x75, 0, 0));
        within("what", 0, 2, BAD, what -> nets.told(0, 0x75, 0, (int) what));
        within("gate by 1", 0, 3, BAD, gate -> nets.told(0, 0x75, (int) gate, 1));
        within("gate by 2", 0, 3, BAD, gate -> nets.told(0, 0x75, (int) gate, 2));
        within("xy", 1, 16, BAD, xy -> nets.told(0, (int) xy, 0, 0));
        within("xy", 239, 254, BAD, xy -> nets.told(0, (int) xy, 0, 0));
        for (int gate : new int[] {-1, 4, LEAST, MOST}) {
            Due.is("by 0 gate " + gate, nets.told(0, 0x75, gate, 0), NONE);
        }
        Due.is("xy 256 and more", nets.told(0, 256 + 0x75, 0, 0), BAD);
        Due.is("xy far below 0", nets.told(0, 0x75 - 256, 0, 0), BAD);
        Due.is("from x", nets.told(0, 0x57, 0, 0), 3);

        Due.by("BAD: SHEET, x, y, the same, what, no such GATE (by 1, 2); STATE; -11; BAD: it tells more than 40.");
        nets.sheet(3, -1, 0);
        for (int what = 0; what <= 2; what++) {
            Due.is("missing by " + what, nets.told(3, 0x75, 0, what), -11);
            Due.is("of 40", filmed(40).told(0, 0x75, 0, what), new int[] {NONE, 1 << 3, 1 << 1 | 1 << 3 | 1 << 5}[what]);
        }
        GlitchNets none = new GlitchNets();
        none.sheet(0, 0, 1);
        Due.is("STATE", none.told(0, 0x75, 0, 0), STATE);
        Due.is("no such GATE by 1", none.told(0, 0x75, 0, 1), BAD);
        Due.is("no such GATE by 2", none.told(0, 0x75, 0, 2), BAD);
        Due.is("STATE ahead of -11", none.told(1, 0x75, 0, 0), STATE);
    }

    private static GlitchNets filmed(int n) {
        GlitchNets nets = Given.hazard();
        nets.film(0, 0x75, n);
        return nets;
    }

    private static void promise23Film() {
        Due.by("A SHEET truly becomes THE WAVE of a CHANGE (xy as of told()) at times 0 .. n - 1 (n 0 .. 40; bytes): n.");
        GlitchNets nets = Given.hazard();
        within("n", 0, 40, BAD, n -> nets.film(0, 0x75, (int) n));
        within("sheet", 0, 3, BAD, sheet -> nets.film((int) sheet, 0x75, 1));
        within("xy", 1, 16, BAD, xy -> nets.film(0, (int) xy, 1));
        within("xy", 239, 254, BAD, xy -> nets.film(0, (int) xy, 1));
        for (int n = 0; n <= 40; n++) {
            GlitchNets one = Given.hazard();
            one.sheet(0, 1, 40 - n);
            Due.is("n", one.film(0, 0x75, n), n);
            Due.is("bytes", one.load(0, 0, 0, 0), 0);
            Due.is("no item behind n", one.put(0, n, 0), -12);
            Due.is("its last item", one.put(0, n - 1, one.wave(7, 5, Math.max(0, n - 1))), n == 0 ? -12 : 1);
            Due.is("as THE WAVE", one.told(0, 0x75, 0, 0), NONE);
        }
        int[] wave = {1, 1, 1, 0, 0, 0, 1, 1};
        nets.film(2, 0x75, wave.length);
        for (int time = 0; time < wave.length; time++) {
            Due.is("item " + time, item(nets, 2, 0, time), wave[time]);
        }

        Due.by("BAD: SHEET, x, y, the same, n; STATE.");
        GlitchNets none = new GlitchNets();
        Due.is("n 0", none.film(0, 0x75, 0), STATE);
        Due.is("n 40", none.film(0, 0x75, 40), STATE);
        Due.is("n 41", none.film(0, 0x75, 41), BAD);
        Due.is("n -1", none.film(0, 0x75, -1), BAD);
        Due.is("still missing", none.put(0, 0, 0), -11);
    }

    private static void promise24Undo() {
        Due.by("The latest DEED is UNDONE: how many can be still. STATE: there is none.");
        Due.is("there is none", new GlitchNets().undo(), STATE);
        GlitchNets nets = minterms(8);
        for (int left = 5; left >= 0; left--) {
            Due.is("how many can be still", nets.undo(), left);
            Due.is("as count() tells", nets.count(2), left);
        }
        Due.is("there is none any more", nets.undo(), STATE);
        Due.is("one is no DEED of its own", nets.count(2), 0);
        Due.is("two TERMS stay", nets.count(1), 2);
    }

    private static void promise25Image() {
        Due.by("AN IMAGE is kept: how many GATES.");
        GlitchNets nets = new GlitchNets();
        for (int gates = 0; gates <= 12; gates++) {
            Due.is("how many", nets.image(), gates);
            Given.text(nets, "not a 1");
        }
        nets.drop();
        Due.is("the latest one is kept", nets.back(), 12);
    }

    private static void promise26Back() {
        Due.by("All that it keeps is as in THE IMAGE: how many GATES. STATE: there is none.");
        Due.is("there is none", new GlitchNets().back(), STATE);
        Due.is("none with GATES", Given.twelve().back(), STATE);
        for (int gates = 0; gates <= 12; gates++) {
            GlitchNets nets = new GlitchNets();
            for (int i = 0; i < gates; i++) {
                Given.text(nets, "not b 2");
            }
            nets.image();
            while (nets.drop() > 0) {
                Due.holds("GATES go", nets.count(0) < 12);
            }
            Given.text(nets, "not c 3");
            Due.is("how many", nets.back(), gates);
            Due.is("as count() tells", nets.count(0), gates);
            Due.is("the first", nets.gate(0, 1), gates == 0 ? BAD : -2);
            Due.is("the last", nets.gate(gates - 1, 3), gates == 0 ? BAD : 2);
        }
    }

    private static void promise27Count() {
        Due.by("How many: 0 GATES, 1 TERMS, 2 DEEDS that can be UNDONE, 3 bytes of THE TAPE. BAD.");
        GlitchNets none = new GlitchNets();
        within("what", 0, 3, BAD, what -> none.count((int) what));
        GlitchNets nets = Given.twelve();
        Given.addTerms(nets, 0, 0, 0, 0, 0, 0, 0, 0, 0, 0, 0, 0, 0, 0, 0, 0);
        Given.feed(nets, "123456789012345678901234567890");
        int[] due = {12, 8, 6, 30};
        for (int what = 0; what <= 3; what++) {
            Due.is("none by " + what, none.count(what), 0);
            Due.is("the most by " + what, nets.count(what), due[what]);
        }
    }

    private static void promise28Sheet() {
        Due.by("A SHEET becomes a row of n of a sort, all 0, or missing (sort -1: n does not matter): 1. BAD: no such SHEET, sort; n above 40; -14.");
        GlitchNets nets = Given.net("xor a a 1");
        within("sheet", 0, 3, BAD, sheet -> nets.sheet((int) sheet, 0, 1));
        within("sheet, missing", 0, 3, BAD, sheet -> nets.sheet((int) sheet, -1, 1));
        within("sort", -1, 1, BAD, sort -> nets.sheet(0, (int) sort, 1));
        for (int sort = 0; sort <= 1; sort++) {
            for (int n : new int[] {-1, -40, LEAST}) {
                Due.is("n " + n, nets.sheet(0, sort, n), -14);
            }
            for (int n : new int[] {41, 42, MOST}) {
                Due.is("n " + n, nets.sheet(0, sort, n), BAD);
            }
            for (int n = 0; n <= 40; n += 4) {
                sheetIsAllZero(nets, sort, n);
            }
        }
        for (int n : new int[] {-1, 0, 40, 41, LEAST, MOST}) {
            nets.sheet(2, 0, 1);
            Due.is("missing by n " + n, nets.sheet(2, -1, n), 1);
            Due.is("it is", nets.put(2, 0, 0), -11);
            Due.is("missing once more", nets.sheet(2, -1, n), 1);
        }
    }

    private static void sheetIsAllZero(GlitchNets nets, int sort, int n) {
        nets.sheet(1, 1 - sort, 40);
        nets.put(1, 0, 7);
        nets.put(1, Math.max(0, n - 1), 7);
        Due.is("a row of " + n, nets.sheet(1, sort, n), 1);
        Due.is("all 0 of " + n, nets.told(1, 1, 0, 0), NONE);
        Due.is("its sort", nets.load(1, sort, 0, 0), 0);
        Due.is("its last", nets.put(1, n - 1, 1), n == 0 ? -12 : 1);
        Due.is("behind its last", nets.put(1, n, 1), -12);
        Due.is("not 0 there", nets.told(1, 1, 0, 0), n - 1);
        Due.is("the same anew", nets.sheet(1, sort, n), 1);
        Due.is("all 0 again", nets.told(1, 1, 0, 0), NONE);
    }

    /** What an item of 0 .. 15 is, by the TERM that it makes; NONE if it makes none. */
    private static int item(GlitchNets nets, int sheet, int sort, int i) {
        nets.sheet(3, sort, 2);
        nets.copy(sheet, i, 3, 0, 1);
        if (nets.load(3, sort, 0, 1) != 1) {
            return NONE;
        }
        int cares = nets.termOf(nets.count(1) - 1, 0);
        nets.off(nets.count(1) - 1);
        return cares;
    }

    private static void promise29Put() {
        Due.by("Item i of a SHEET becomes v (of bytes its lowest 8 bits): 1. BAD: no such SHEET; -11; -12.");
        for (int n = 0; n <= 40; n += 8) {
            GlitchNets nets = new GlitchNets();
            nets.sheet(0, 0, n);
            nets.sheet(1, 1, n);
            within("item of bytes", 0, n - 1, -12, i -> nets.put(0, (int) i, 1));
            within("item of ints", 0, n - 1, -12, i -> nets.put(1, (int) i, 1));
        }
        GlitchNets nets = new GlitchNets();
        for (int sheet = 0; sheet <= 3; sheet++) {
            nets.sheet(sheet, 1, 1);
        }
        within("sheet", 0, 3, BAD, sheet -> nets.put((int) sheet, 0, 0));
        Given.row(nets, 0, 0, 255, 256, 257, -1, -255, -256, 271, 272, LEAST, MOST, LEAST + 5);
        int[] bytes = {NONE, 0, 1, NONE, 1, 0, 15, NONE, 0, NONE, 5};
        for (int i = 0; i < bytes.length; i++) {
            Due.is("byte " + i, item(nets, 0, 0, i), bytes[i]);
        }
        Given.row(nets, 1, 1, 15, 16, 255, 256, 257, -1, -255, 271, LEAST, MOST, LEAST + 5, 0);
        int[] ints = {15, NONE, NONE, NONE, NONE, NONE, NONE, NONE, NONE, NONE, NONE, 0};
        for (int i = 0; i < ints.length; i++) {
            Due.is("int " + i, item(nets, 1, 1, i), ints[i]);
        }
        Due.is("once more", nets.put(1, 1, 9), 1);
        Due.is("the item ahead", item(nets, 1, 1, 0), 15);
        Due.is("it", item(nets, 1, 1, 1), 9);
        Due.is("the item behind", item(nets, 1, 1, 2), NONE);
    }

    private static GlitchNets twoRows() {
        GlitchNets nets = new GlitchNets();
        Given.row(nets, 0, 0, 1, 2, 3, 4, 5);
        Given.row(nets, 1, 0, 6, 7, 8, 9);
        return nets;
    }

    private static void promise30Copy() {
        Due.by("n numbers of a SHEET, from item i on, come to another one's item j on (as they were): n.");
        for (int i = -1; i <= 6; i++) {
            for (int j = -1; j <= 5; j++) {
                for (int n = -1; n <= 6; n++) {
                    boolean within = i >= 0 && j >= 0 && n >= 0 && i + n <= 5 && j + n <= 4;
                    GlitchNets nets = twoRows();
                    Due.is("copy(0, " + i + ", 1, " + j + ", " + n + ")", nets.copy(0, i, 1, j, n), within ? n : -12);
                    for (int k = 0; k < 4; k++) {
                        boolean came = within && k >= j && k < j + n;
                        Due.is("item " + k, item(nets, 1, 0, k), came ? 1 + i + k - j : 6 + k);
                    }
                }
            }
        }
        for (int i = 0; i <= 5; i++) {
            for (int j = 0; j <= 5; j++) {
                int n = 5 - Math.max(i, j);
                GlitchNets nets = twoRows();
                Due.is("to itself", nets.copy(0, i, 0, j, n), n);
                for (int k = 0; k < 5; k++) {
                    Due.is("as they were, item " + k, item(nets, 0, 0, k), k >= j && k < j + n ? 1 + i + k - j : 1 + k);
                }
            }
        }
        GlitchNets nets = Given.net("xor a a 1", "not 0 1");
        nets.film(0, 1, 40);
        nets.sheet(1, 0, 40);
        Due.is("forty", nets.copy(0, 0, 1, 0, 40), 40);
        Due.is("all came", nets.told(1, 1, 0, 0), NONE);
        Due.is("41", nets.copy(0, 0, 1, 0, 41), -12);

        Due.by("BAD: no such SHEET; -11; -13: they are of unlike sorts; -12 (also with n below 0).");
        GlitchNets four = new GlitchNets();
        for (int sheet = 0; sheet <= 3; sheet++) {
            four.sheet(sheet, 1, 2);
        }
        within("sheet", 0, 3, BAD, sheet -> four.copy((int) sheet, 0, 1, 0, 1));
        within("other", 0, 3, BAD, other -> four.copy(0, 0, (int) other, 0, 1));
        within("i", 0, 1, -12, i -> four.copy(0, (int) i, 1, 0, 1));
        within("j", 0, 1, -12, j -> four.copy(0, 0, 1, (int) j, 1));
        within("n", 0, 2, -12, n -> four.copy(0, 0, 1, 0, (int) n));
        within("i of none", 0, 2, -12, i -> four.copy(0, (int) i, 1, 0, 0));
        within("j of none", 0, 2, -12, j -> four.copy(0, 0, 1, (int) j, 0));
        four.sheet(2, 0, 2);
        Due.is("ints to bytes", four.copy(0, 0, 2, 0, 1), -13);
        Due.is("bytes to ints", four.copy(2, 0, 0, 0, 1), -13);
        four.sheet(3, -1, 0);
        Due.is("missing", four.copy(3, 0, 0, 0, 0), -11);
        Due.is("other missing", four.copy(0, 0, 3, 0, 0), -11);
        Due.is("both missing", four.copy(3, 0, 3, 0, 0), -11);
    }

    private static GlitchNets rowOfTerms(int items) {
        GlitchNets nets = new GlitchNets();
        nets.sheet(0, 1, items);
        nets.sheet(2, 0, 40);
        for (int i = 0; i < items; i++) {
            nets.put(0, i, 15 - i % 2);
        }
        return nets;
    }

    private static void promise31Load() {
        Due.by("TERMS by a SHEET that is taken for one of a sort: its items from one on, two a TERM (CARES, WANTS), n of them (0 .. 8): how many came (what term() refuses is left out).");
        for (int n = 0; n <= 8; n++) {
            for (int items = 0; items <= 18; items++) {
                GlitchNets nets = rowOfTerms(items);
                Due.is("load of " + n + " from " + items, nets.load(0, 1, 0, n), 2 * n <= items ? n : -12);
                Due.is("what stood ahead came", nets.count(1), Math.min(n, items / 2));
            }
        }
        within("n", 0, 8, BAD, n -> rowOfTerms(16).load(0, 1, 0, (int) n));
        within("sheet", 0, 3, BAD, sheet -> rowOfTerms(16).load((int) sheet, 1, 0, 0));
        within("sort", 0, 1, BAD, sort -> rowOfTerms(16).load(0, (int) sort, 0, 1));
        within("sort of bytes", 0, 1, BAD, sort -> rowOfTerms(16).load(2, (int) sort, 0, 0));
        within("sort of a missing one", 0, 1, BAD, sort -> rowOfTerms(16).load(1, (int) sort, 0, 0));
        within("from", 0, 14, -12, from -> rowOfTerms(16).load(0, 1, (int) from, 1));
        within("from, of two", 0, 12, -12, from -> rowOfTerms(16).load(0, 1, (int) from, 2));
        within("from of 40", 0, 38, -12, from -> rowOfTerms(0).load(2, 0, (int) from, 1));
        within("from of 40, of eight", 0, 24, -12, from -> rowOfTerms(0).load(2, 0, (int) from, 8));
        GlitchNets nets = new GlitchNets();
        Given.row(nets, 0, 1, 16, 0, -1, 0, 15, 16, 15, -1, 7, 8, 0, 1, 0, 0, 15, 15);
        Due.is("what term() refuses is left out", nets.load(0, 1, 0, 8), 2);
        Due.is("the first that came", nets.termOf(0, 0), 0);
        Due.is("the second", nets.termOf(1, 0), 15);
        Due.is("a DEED each that came", nets.count(2), 2);
        Due.is("from the last one on", nets.load(0, 1, 14, 1), 1);
        for (int ahead = 0; ahead <= 8; ahead++) {
            GlitchNets some = minterms(ahead);
            some.sheet(0, 0, 16);
            Due.is("FULL is left out behind " + ahead, some.load(0, 0, 0, 8), 8 - ahead);
            Due.is("eight", some.count(1), 8);
        }

        Due.by("BAD: no such SHEET, sort, n; -13; -11 (both with n 0, too); -12: what stood ahead came.");
        for (int n = 0; n <= 8; n += 8) {
            Due.is("ints for bytes", rowOfTerms(16).load(0, 0, 0, n), -13);
            Due.is("bytes for ints", rowOfTerms(16).load(2, 1, 0, n), -13);
            Due.is("missing for bytes", rowOfTerms(16).load(1, 0, 0, n), -11);
            Due.is("missing for ints", rowOfTerms(16).load(1, 1, 0, n), -11);
        }
        nets = new GlitchNets();
        Given.row(nets, 0, 1, 3, 1, 9, 9, 5);
        Due.is("two, then half a TERM", nets.load(0, 1, 0, 3), -12);
        Due.is("both came", nets.count(1), 2);
        Due.is("the first", 100 * nets.termOf(0, 0) + nets.termOf(0, 1), 301);
        Due.is("the second", 100 * nets.termOf(1, 0) + nets.termOf(1, 1), 909);
        Due.is("a DEED each", nets.count(2), 2);
        Due.is("by undo() the second goes", nets.undo(), 1);
        Due.is("the first stays", nets.count(1), 1);
    }
}
