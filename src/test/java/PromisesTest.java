/** For each promise of the document: ordinary calls, the edges it names, its refusals in their order. */
public final class PromisesTest {
    private static final int NONE = -1, BAD = -2, STATE = -3, FULL = -4;
    private static final int LEAST = Given.LEAST, MOST = Given.MOST;

    private PromisesTest() {
    }

    public static void main(String[] args) {
        promise1New();
        promise2Feed();
        promise3Text();
        promise3Faults();
        promise4Delay();
        promise5Drop();
        promise6Gate();
        promise7Taken();
        promise8Tells();
        promise9Table();
        promise10Wave();
        promise10LongWave();
        promise11Change();
        promise12Worst();
        promise13Glitches();
        promise14Path();
        promise15Term();
        promise16Off();
        promise17TermOf();
        promise18Covered();
        promise19Open();
        promise20Prime();
        promise21Added();
        promise22Told();
        promise22Kinds();
        promise23Film();
        promise24Undo();
        promise24EachDeed();
        promise25Image();
        promise26Back();
        promise27Count();
        promise28Sheet();
        promise29Put();
        promise30Copy();
        promise31Load();
        Due.end("PromisesTest");
    }

    private static void promise1New() {
        Due.is("NONE", GlitchNets.NONE, -1);
        Due.is("BAD", GlitchNets.BAD, -2);
        Due.is("STATE", GlitchNets.STATE, -3);
        Due.is("FULL", GlitchNets.FULL, -4);
        GlitchNets nets = new GlitchNets();
        for (int what = 0; what < 4; what++) {
            Due.is("new count(" + what + ")", nets.count(what), 0);
        }
        Due.is("new table()", nets.table(), STATE);
        Due.is("new covered(0)", nets.covered(0), 0);
        Due.is("new prime(NONE)", nets.prime(NONE), 0);
        Due.is("new open(NONE)", nets.open(NONE), 0);
        for (int sheet = 0; sheet < 4; sheet++) {
            Due.is("new sheets are missing", nets.put(sheet, 0, 0), -11);
        }
        GlitchNets other = Given.net("not a 1");
        Due.is("objects are apart", other.count(0) + 10 * nets.count(0), 1);
    }

    private static void promise2Feed() {
        GlitchNets nets = new GlitchNets();
        Due.is("n 0", nets.feed(0, 1, 1, 1, 1, 1), BAD);
        Due.is("n 6", nets.feed(6, 1, 1, 1, 1, 1), BAD);
        Due.is("n least", nets.feed(LEAST, 1, 1, 1, 1, 1), BAD);
        int[] wrong = {-1, 256, LEAST, MOST};
        for (int w : wrong) {
            Due.is("a " + w, nets.feed(1, w, 0, 0, 0, 0), BAD);
            Due.is("b, that does not come, " + w, nets.feed(1, 0, w, 0, 0, 0), BAD);
            Due.is("c " + w, nets.feed(1, 0, 0, w, 0, 0), BAD);
            Due.is("d " + w, nets.feed(1, 0, 0, 0, w, 0), BAD);
            Due.is("e " + w, nets.feed(1, 0, 0, 0, 0, w), BAD);
        }
        Due.is("nothing came", nets.count(3), 0);
        Due.is("one", nets.feed(1, 255, 0, 0, 0, 0), 1);
        Due.is("two", nets.feed(2, 0, 255, 255, 255, 255), 3);
        Due.is("three", nets.feed(3, 0, 0, 0, 0, 0), 6);
        Due.is("four", nets.feed(4, 0, 0, 0, 0, 0), 10);
        for (int have = 15; have <= 25; have += 5) {
            Due.is("five", nets.feed(5, 0, 0, 0, 0, 0), have);
        }
        Due.is("two more", nets.feed(2, 0, 0, 0, 0, 0), 27);
        Due.is("no room for four", nets.feed(4, 0, 0, 0, 0, 0), FULL);
        Due.is("BAD ahead of FULL", nets.feed(4, 0, 0, 0, 0, 256), BAD);
        Due.is("just room", nets.feed(3, 0, 0, 0, 0, 0), 30);
        Due.is("no room", nets.feed(1, 0, 0, 0, 0, 0), FULL);
        Due.is("as it was", nets.count(3), 30);

        nets = new GlitchNets();
        nets.feed(3, 'n', 'o', 't', 'x', 'x');
        nets.feed(4, ' ', 'd', ' ', '7', 'x');
        Due.is("those first come, in order", nets.text(), 0);
        Due.is("source", nets.gate(0, 1), -4);
        Due.is("delay", nets.gate(0, 3), 7);
        nets.feed(5, 'o', 'r', ' ', 'a', '0');
        nets.feed(2, ' ', '2', 0, 0, 0);
        Due.is("five in order", nets.text(), 1);
    }

    private static void promise3Text() {
        String[] words = {"and", "nand", "or", "nor", "xor"};
        GlitchNets nets = new GlitchNets();
        for (int kind = 0; kind < 5; kind++) {
            Due.is(words[kind], Given.text(nets, words[kind] + " a d " + (kind + 1)), kind);
            Due.is("kind", nets.gate(kind, 0), kind);
            Due.is("first", nets.gate(kind, 1), -1);
            Due.is("second", nets.gate(kind, 2), -4);
            Due.is("delay", nets.gate(kind, 3), kind + 1);
        }
        Due.is("not", Given.text(nets, "not 4 9"), 5);
        Due.is("kind of not", nets.gate(5, 0), 5);
        Due.is("first of not", nets.gate(5, 1), 4);
        Due.is("second of not", nets.gate(5, 2), 4);
        Due.is("delay of not", nets.gate(5, 3), 9);
        Due.is("blanks about", Given.text(nets, "  nand   b    05    03   "), 6);
        Due.is("two digits, a source", nets.gate(6, 2), 5);
        Due.is("two digits, a delay", nets.gate(6, 3), 3);
        Due.is("side by side", Given.text(nets, "xor6b9"), 7);
        Due.is("side by side, first", nets.gate(7, 1), 6);
        Due.is("side by side, second", nets.gate(7, 2), -2);
        Due.is("like sources", Given.text(nets, "and c c 1"), 8);
        Due.is("the tape is empty then", nets.count(3), 0);
        Due.is("gate 9", Given.text(nets, "or 8 8 1"), 9);
        Due.is("gate 10", Given.text(nets, "or 9 09 1"), 10);
        Due.is("gate 11 of gate 10", Given.text(nets, "not 10 1"), 11);
        Due.is("gate 11's source", nets.gate(11, 1), 10);
        Due.is("a 13th", Given.text(nets, "and a b 1"), FULL);
        Due.is("tape by FULL", nets.count(3), 0);
        Due.is("FULL changes no gate", nets.count(0), 12);
        Due.is("FAULT ahead of FULL", Given.text(nets, "and a b 0"), -108);
        Due.is("gate 12 isn't there", Given.text(nets, "not 12 1"), -104);
        Due.is("gate 11 is, but FULL", Given.text(nets, "not 11 1"), FULL);
    }

    private static void promise3Faults() {
        Object[][] faults = {
            {"", 0}, {"   ", 3}, {"and", 3}, {"and ", 4}, {"and a", 5}, {"and a b", 7}, {"and a b  ", 9},
            {"not", 3}, {"not a", 5}, {"not a ", 6},
            {"And a b 1", 0}, {"andy a b 1", 0}, {"an a b 1", 0}, {" put a b 1", 1}, {"3 a b 1", 0}, {"!and", 0},
            {"and e b 1", 4}, {"and z b 1", 4}, {"and ab 1", 4}, {"and a bb 1", 6}, {"and a A 1", 6},
            {"and 2 b 1", 4}, {"and a 2 1", 6}, {"and a 000 1", 6}, {"and 001 b 1", 4}, {"and a 99 1", 6},
            {"and a b 0", 8}, {"and a b 00", 8}, {"and a b 10", 8}, {"and a b 99", 8}, {"and a b 001", 8},
            {"and a b c", 8}, {"and a b and", 8}, {"and a b -1", 8}, {"and a,b 1", 5}, {"and a b 1!", 9},
            {"and a b 1a", 9}, {"and a b 1 1", 10}, {"not a b 1", 6}, {"not a 1 1", 8}, {"not not 1", 4},
            {"nota 1", 0}, {"notz a 1", 0}, {"nor a 1", 7}, {"and\ta b 1", 3}, {"and a b 1\n", 9}, {"and a b 1`", 9},
            {"and a b 1{", 9}, {"and a b 1/", 9}, {"and a b 1:", 9}, {"and a b 1\u00e9", 9}, {"and a b 1\0", 9},
            {"and a b 100000000000000000001", 8}, {"and a b 12345678901234567890xy", 8},
            {"abcdefghijklmnopqrstuvwxyzabcd", 0}, {"                              ", 30}
        };
        GlitchNets nets = Given.net("not a 1", "not b 1");
        for (Object[] fault : faults) {
            Due.is("fault of '" + fault[0] + "'", Given.text(nets, (String) fault[0]), -100 - (Integer) fault[1]);
            Due.is("tape by a fault of '" + fault[0] + "'", nets.count(3), 0);
        }
        Due.is("no gate came", nets.count(0), 2);
        Due.is("no deed", nets.count(2), 2);
        Due.is("a gate that there is", Given.text(nets, "not 1 1"), 2);
        Due.is("a gate of a lesser number only", Given.text(nets, "not 3 1"), -104);
    }

    private static void promise4Delay() {
        GlitchNets nets = Given.net("not a 4");
        Due.is("what it was", nets.delay(0, 9), 4);
        Due.is("what it became", nets.gate(0, 3), 9);
        Due.is("the same", nets.delay(0, 9), 9);
        Due.is("deeds, the same one too", nets.count(2), 3);
        Due.is("least", nets.delay(0, 1), 9);
        Due.is("v 0", nets.delay(0, 0), BAD);
        Due.is("v 10", nets.delay(0, 10), BAD);
        Due.is("v least", nets.delay(0, LEAST), BAD);
        Due.is("gate -1", nets.delay(-1, 1), BAD);
        Due.is("gate 1", nets.delay(1, 1), BAD);
        Due.is("gate most", nets.delay(MOST, 1), BAD);
        Due.is("refusals are no deeds", nets.count(2), 4);
        Due.is("as it was", nets.gate(0, 3), 1);
        Due.is("wave by it", nets.change(0, 1, 2), 1);
    }

    private static void promise5Drop() {
        GlitchNets nets = Given.hazard();
        nets.term(1, 1);
        Due.is("left", nets.drop(), 3);
        Due.is("no deeds any more", nets.count(2), 0);
        Due.is("no gate 3", nets.gate(3, 0), BAD);
        Due.is("the output is gate 2", nets.table(), 0x3030);
        Due.is("terms stay", nets.count(1), 1);
        Due.is("left", nets.drop(), 2);
        Due.is("left", nets.drop(), 1);
        nets.term(1, 1);
        Due.is("left", nets.drop(), 0);
        nets.term(1, 1);
        Due.is("none", nets.drop(), STATE);
        Due.is("a refused one leaves deeds", nets.count(2), 1);
        Due.is("a new one", Given.text(nets, "not c 2"), 0);
        Due.is("of the new one", nets.table(), 0x0F0F);
    }

    private static void promise6Gate() {
        GlitchNets nets = Given.net("not b 3", "and a b 2", "nand 0 0 4", "or 2 0 1", "xor 3 c 9", "nor d 1 1");
        int[][] due = {
            {5, -2, -2, 3, 3, 2}, {0, -1, -2, 2, 2, 1}, {1, 0, 0, 4, 7, 1},
            {2, 2, 0, 1, 8, 1}, {4, 3, -3, 9, 17, 0}, {3, -4, 1, 1, 3, 0}
        };
        for (int gate = 0; gate < 6; gate++) {
            for (int what = 0; what < 6; what++) {
                Due.is("gate(" + gate + ", " + what + ")", nets.gate(gate, what), due[gate][what]);
            }
        }
        nets.delay(0, 1);
        Due.is("PATH by a new DELAY", nets.gate(4, 4), 15);
        int[] wrong = {-1, 6, LEAST, MOST};
        for (int w : wrong) {
            Due.is("gate " + w, nets.gate(w, 0), BAD);
            Due.is("what " + w, nets.gate(0, w), BAD);
        }
        Due.is("no gates", new GlitchNets().gate(0, 0), BAD);
        Due.is("PATH of twelve", Given.twelve().gate(11, 4), 108);
    }

    private static void promise7Taken() {
        GlitchNets nets = Given.net("and a b 1", "nand a b 2", "or a b 3", "nor a b 4", "xor a b 5", "not a 6");
        for (int gate = 0; gate < 6; gate++) {
            for (int k = 0; k < 6; k++) {
                boolean fits = gate == k || gate == 1 && k == 0 || gate == 3 && k == 2;
                Due.is("taken(" + gate + ", " + k + ")", nets.taken(gate, k), fits ? gate + 1 : -13);
            }
        }
        int[] wrong = {-1, 6, LEAST, MOST};
        for (int w : wrong) {
            Due.is("gate " + w, nets.taken(w, 0), BAD);
            Due.is("k " + w, nets.taken(0, w), BAD);
        }
    }

    private static void promise8Tells() {
        String[] words = {"and", "nand", "or", "nor", "xor"};
        int[] tables = {0x8, 0x7, 0xE, 0x1, 0x6};
        GlitchNets nets = new GlitchNets();
        for (int kind = 0; kind < 5; kind++) {
            Given.text(nets, words[kind] + " a b 1");
            for (int inputs = 0; inputs < 16; inputs++) {
                Due.is(words[kind] + " at " + inputs, nets.tells(kind, inputs), tables[kind] >> inputs % 4 & 1);
            }
        }
        Given.text(nets, "not d 1");
        Given.text(nets, "and 5 c 1");
        for (int inputs = 0; inputs < 16; inputs++) {
            Due.is("not d at " + inputs, nets.tells(5, inputs), inputs < 8 ? 1 : 0);
            Due.is("not d, and c, at " + inputs, nets.tells(6, inputs), inputs >= 4 && inputs < 8 ? 1 : 0);
        }
        int[] wrong = {-1, 16, LEAST, MOST};
        for (int w : wrong) {
            Due.is("inputs " + w, nets.tells(0, w), BAD);
            Due.is("gate " + w, nets.tells(w, 0), BAD);
        }
        Due.is("gate 7", nets.tells(7, 0), BAD);
    }

    private static void promise9Table() {
        GlitchNets nets = new GlitchNets();
        Due.is("no gates", nets.table(), STATE);
        String[] texts = {"and a a 1", "or b b 1", "and c c 1", "or d d 1", "not a 1", "xor c d 1", "nand a d 1", "nor b c 1"};
        int[] tables = {0xAAAA, 0xCCCC, 0xF0F0, 0xFF00, 0x5555, 0x0FF0, 0x55FF, 0x0303};
        for (int i = 0; i < texts.length; i++) {
            Given.text(nets, texts[i]);
            Due.is("table of " + texts[i], nets.table(), tables[i]);
        }
        Given.text(nets, "xor 5 4 1");
        Due.is("table of gates", nets.table(), 0x5AA5);
        Due.is("hazard", Given.hazard().table(), 47288);
    }

    private static void promise10Wave() {
        GlitchNets nets = Given.hazard();
        int[] wave = {1, 1, 1, 0, 0, 0, 1, 1, 1};
        for (int time = 0; time < wave.length; time++) {
            Due.is("wave(7, 5, " + time + ")", nets.wave(7, 5, time), wave[time]);
        }
        Due.is("long after", nets.wave(7, 5, 108), 1);
        for (int time = 0; time <= 108; time++) {
            Due.is("the other way", nets.wave(5, 7, time), 1);
        }
        int[] wrong = {-1, 16, LEAST, MOST};
        for (int w : wrong) {
            Due.is("x " + w, nets.wave(w, 0, 0), BAD);
            Due.is("y " + w, nets.wave(0, w, 0), BAD);
        }
        Due.is("the same", nets.wave(3, 3, 0), BAD);
        Due.is("time -1", nets.wave(0, 1, -1), BAD);
        Due.is("time 109", nets.wave(0, 1, 109), BAD);
        Due.is("time most", nets.wave(0, 1, MOST), BAD);
        GlitchNets none = new GlitchNets();
        Due.is("no gates", none.wave(0, 1, 0), STATE);
        Due.is("BAD ahead of STATE", none.wave(0, 0, 0), BAD);
        Due.is("BAD by time ahead of STATE", none.wave(0, 1, 109), BAD);
    }

    private static void promise10LongWave() {
        GlitchNets nets = Given.twelve();
        Due.is("twelve times nine, ahead", nets.wave(0, 1, 107), 1);
        Due.is("twelve times nine", nets.wave(0, 1, 108), 0);
        Due.is("its one flip", nets.change(0, 1, 0), 1);
        Due.is("settles at last", nets.change(0, 1, 2), 108);
        for (int time = 0; time <= 98; time++) {
            Due.is("d comes by each gate, at " + time, nets.wave(0, 8, time), time < 9 ? 1 : 1 - time / 9 % 2);
        }
        Due.is("its flips", nets.change(0, 8, 0), 11);
        Due.is("its end", nets.change(0, 8, 2), 99);
        Due.is("otherwise with more flips", nets.change(0, 8, 1), 2);
        int[] lasts = {62, 63, 64, 65, 66};
        for (int last : lasts) {
            GlitchNets one = Given.net("not a 9", "not 0 9", "not 1 9", "not 2 9", "not 3 9", "not 4 9", "not 5 5");
            Given.text(one, "not 6 " + (last - 6 * 9 - 5));
            Due.is("ahead of " + last, one.wave(0, 1, last - 1), 0);
            Due.is("at " + last, one.wave(0, 1, last), 1);
            Due.is("one flip", one.change(0, 1, 0), 1);
            Due.is("settles", one.change(0, 1, 2), last);
        }
    }

    private static void promise11Change() {
        GlitchNets nets = Given.hazard();
        Due.is("flips", nets.change(7, 5, 0), 2);
        Due.is("glitch", nets.change(7, 5, 1), 1);
        Due.is("settles", nets.change(7, 5, 2), 6);
        Due.is("no flips", nets.change(5, 7, 0), 0);
        Due.is("no glitch", nets.change(5, 7, 1), 0);
        Due.is("never", nets.change(5, 7, 2), NONE);
        Due.is("one flip", nets.change(0, 15, 0), 1);
        Due.is("one flip is no glitch", nets.change(0, 15, 1), 0);
        Due.is("its time", nets.change(0, 15, 2), 3);
        GlitchNets late = Given.net("not a 9", "xor 0 a 1", "xor 1 a 1");
        Due.is("three flips", late.change(0, 1, 0), 3);
        Due.is("ends otherwise", late.change(0, 1, 1), 2);
        Due.is("at", late.change(0, 1, 2), 11);
        int[] wrong = {-1, 16, LEAST, MOST};
        for (int w : wrong) {
            Due.is("x " + w, nets.change(w, 0, 0), BAD);
            Due.is("y " + w, nets.change(0, w, 0), BAD);
            Due.is("what " + w, nets.change(0, 1, w), BAD);
        }
        Due.is("what 3", nets.change(0, 1, 3), BAD);
        Due.is("the same", nets.change(15, 15, 0), BAD);
        GlitchNets none = new GlitchNets();
        Due.is("no gates", none.change(0, 1, 0), STATE);
        Due.is("BAD ahead of STATE", none.change(0, 1, 3), BAD);
    }

    private static void promise12Worst() {
        GlitchNets nets = Given.hazard();
        Due.is("x", nets.worst(0), 7);
        Due.is("y", nets.worst(1), 5);
        Due.is("flips", nets.worst(2), 2);
        nets = Given.net("xor a a 1");
        Due.is("none flips: least x", nets.worst(0), 0);
        Due.is("none flips: least y", nets.worst(1), 1);
        Due.is("none flips", nets.worst(2), 0);
        nets = Given.net("and a d 1");
        Due.is("like ones: least x", nets.worst(0), 1);
        Due.is("one flip", nets.worst(2), 1);
        nets = Given.net("and c d 1", "xor a 0 1");
        Due.is("x 0 by a", 16 * nets.worst(0) + nets.worst(1), 1);
        nets = Given.net("nor a b 1");
        Due.is("x 0, least y", 16 * nets.worst(0) + nets.worst(1), 1);
        nets = Given.net("not a 1", "and 0 a 1", "and 1 b 1", "and 2 c 1");
        Due.is("x 6 to 7: a pulse", 16 * nets.worst(0) + nets.worst(1), 16 * 6 + 7);
        nets = Given.net("not a 1", "nor a 0 1");
        Due.is("x 1 to 0: a pulse", 16 * nets.worst(0) + nets.worst(1), 16);
        nets = Given.net("not a 1", "not b 1", "nor a 0 1", "nor b 1 1", "xor 2 3 1");
        Due.is("of x 3 the least y is 1, but x 1 is less", 16 * nets.worst(0) + nets.worst(1), 16);
        nets = Given.net("nand a b 1");
        Due.is("x 1 to 3 is ahead of x 3 to 1", 16 * nets.worst(0) + nets.worst(1), 19);
        nets = Given.net("and a b 1", "and 0 c 1", "not c 9", "and 0 2 1", "or 1 3 1");
        Due.is("x 7: y 3 by its pulse", 16 * nets.worst(0) + nets.worst(1), 16 * 7 + 3);
        nets = Given.net("xor a b 1", "and 0 c 1", "xor 1 d 1");
        Due.is("x 0 to 8 is first of all", 16 * nets.worst(0) + nets.worst(1), 8);
        Due.is("what 3", nets.worst(3), BAD);
        Due.is("what -1", nets.worst(-1), BAD);
        Due.is("no gates", new GlitchNets().worst(2), STATE);
        Due.is("BAD ahead of STATE", new GlitchNets().worst(3), BAD);
    }

    private static void promise13Glitches() {
        GlitchNets nets = Given.hazard();
        Due.is("none", nets.glitches(0), 62);
        Due.is("while nothing should", nets.glitches(1), 2);
        Due.is("while something should", nets.glitches(2), 0);
        nets = Given.net("not a 9", "xor 0 a 1", "xor 1 a 1");
        Due.is("each change of a", nets.glitches(2), 16);
        Due.is("no other", nets.glitches(0), 48);
        Due.is("none while nothing should", nets.glitches(1), 0);
        nets = Given.net("not a 9", "xor 0 a 1");
        Due.is("each change of a, back again", nets.glitches(1), 16);
        Due.is("g 3", nets.glitches(3), BAD);
        Due.is("g -1", nets.glitches(-1), BAD);
        Due.is("no gates", new GlitchNets().glitches(0), STATE);
        Due.is("BAD ahead of STATE", new GlitchNets().glitches(-1), BAD);
    }

    private static void promise14Path() {
        GlitchNets nets = Given.hazard();
        int[] due = {3, 2, 0, NONE, NONE};
        for (int k = 0; k < due.length; k++) {
            Due.is("path(" + k + ")", nets.path(k), due[k]);
        }
        Due.is("far behind", nets.path(MOST), NONE);
        nets.delay(1, 9);
        Due.is("by another delay", nets.path(1), 1);
        Due.is("of inputs alone", nets.path(2), NONE);
        Due.is("k -1", nets.path(-1), BAD);
        Due.is("k least", nets.path(LEAST), BAD);
        Due.is("no gates", new GlitchNets().path(0), STATE);
        Due.is("BAD ahead of STATE", new GlitchNets().path(-1), BAD);
        Due.is("of like ones first", Given.net("not a 2", "not b 2", "or 1 0 1").path(1), 1);
        Due.is("of like ones first", Given.net("not a 2", "not b 2", "or 0 1 1").path(1), 0);
        Due.is("a gate, not an input", Given.net("not a 2", "or a 0 1").path(1), 0);
        Due.is("a gate, not an input", Given.net("not a 2", "or 0 a 1").path(1), 0);
        Due.is("not all twelve", Given.twelve().path(11), 0);
        Due.is("behind the twelfth", Given.twelve().path(12), NONE);
    }

    private static void promise15Term() {
        GlitchNets nets = new GlitchNets();
        int[] wrong = {-1, 16, LEAST, MOST};
        for (int w : wrong) {
            Due.is("cares " + w, nets.term(w, 0), BAD);
            Due.is("wants " + w, nets.term(15, w), BAD);
        }
        Due.is("wants more than cares", nets.term(5, 2), BAD);
        Due.is("wants more than cares", nets.term(5, 7), BAD);
        Due.is("wants with none", nets.term(0, 1), BAD);
        Due.is("refusals are no deeds", nets.count(2), 0);
        int[][] terms = {{15, 15}, {0, 0}, {5, 1}, {5, 1}, {5, 4}, {8, 8}, {15, 0}, {3, 2}};
        for (int i = 0; i < 8; i++) {
            Due.is("place", nets.term(terms[i][0], terms[i][1]), i);
        }
        for (int i = 0; i < 8; i++) {
            Due.is("cares", nets.termOf(i, 0), terms[i][0]);
            Due.is("wants", nets.termOf(i, 1), terms[i][1]);
        }
        Due.is("a ninth", nets.term(0, 0), FULL);
        Due.is("BAD ahead of FULL", nets.term(0, 1), BAD);
        Due.is("still eight", nets.count(1), 8);
    }

    private static void promise16Off() {
        GlitchNets nets = new GlitchNets();
        Due.is("none", nets.off(0), BAD);
        for (int i = 0; i < 8; i++) {
            nets.term(15, i);
        }
        Due.is("left", nets.off(3), 7);
        int[] wants = {0, 1, 2, 4, 5, 6, 7};
        for (int i = 0; i < 7; i++) {
            Due.is("moved up", nets.termOf(i, 1), wants[i]);
        }
        Due.is("place 7", nets.off(7), BAD);
        Due.is("place -1", nets.off(-1), BAD);
        Due.is("place least", nets.off(LEAST), BAD);
        Due.is("place most", nets.off(MOST), BAD);
        Due.is("the last", nets.off(6), 6);
        Due.is("the first", nets.off(0), 5);
        Due.is("behind it", nets.termOf(0, 1), 1);
        Due.is("the last is 6", nets.termOf(4, 1), 6);
        Due.is("there is room", nets.term(1, 1), 5);
    }

    private static void promise17TermOf() {
        GlitchNets nets = new GlitchNets();
        int[][] terms = {{0, 0, 0xFFFF}, {1, 1, 0xAAAA}, {1, 0, 0x5555}, {8, 8, 0xFF00}, {6, 4, 0x3030},
            {15, 9, 1 << 9}, {15, 0, 1}, {7, 5, 1 << 5 | 1 << 13}};
        for (int i = 0; i < 8; i++) {
            nets.term(terms[i][0], terms[i][1]);
            for (int what = 0; what < 3; what++) {
                Due.is("termOf(" + i + ", " + what + ")", nets.termOf(i, what), terms[i][what]);
            }
        }
        int[] wrong = {-1, 8, LEAST, MOST};
        for (int w : wrong) {
            Due.is("place " + w, nets.termOf(w, 0), BAD);
            Due.is("what " + w, nets.termOf(0, w), BAD);
        }
        Due.is("what 3", nets.termOf(0, 3), BAD);
        Due.is("none", new GlitchNets().termOf(0, 0), BAD);
    }

    private static void promise18Covered() {
        GlitchNets nets = new GlitchNets();
        Due.is("nothing", nets.covered(0), 0);
        Due.is("no table", nets.covered(1), STATE);
        Due.is("what 2", nets.covered(2), BAD);
        Due.is("what -1", nets.covered(-1), BAD);
        nets.term(3, 3);
        nets.term(6, 4);
        Due.is("two terms", nets.covered(0), 47288);
        Given.text(nets, "and a b 1");
        Due.is("not the table", nets.covered(1), 0);
        Given.text(nets, "not b 1");
        Given.text(nets, "and 1 c 1");
        Given.text(nets, "or 0 2 1");
        Due.is("the table", nets.covered(1), 1);
        nets.term(0, 0);
        Due.is("all", nets.covered(0), 65535);
        Due.is("not the table", nets.covered(1), 0);
    }

    private static void promise19Open() {
        GlitchNets nets = new GlitchNets();
        Due.is("none", nets.open(NONE), 0);
        Due.is("of none the first", nets.open(0), -12);
        int[] stands = {0, 1, 2, 4, 8, 3};
        for (int s : stands) {
            nets.term(15, s);
        }
        int[] due = {0, 1, 2, 3, 16 + 1, 32};
        Due.is("how many", nets.open(NONE), due.length);
        for (int k = 0; k < due.length; k++) {
            Due.is("open(" + k + ")", nets.open(k), due[k]);
        }
        Due.is("behind the last", nets.open(6), -12);
        Due.is("k -2", nets.open(-2), -12);
        Due.is("k least", nets.open(LEAST), -12);
        Due.is("k most", nets.open(MOST), -12);
        nets.term(12, 0);
        Due.is("held by one term", nets.open(NONE), 2);
        Due.is("the first left", nets.open(0), 2);
        Due.is("the second left", nets.open(1), 3);
        nets = new GlitchNets();
        nets.term(8, 0);
        nets.term(8, 8);
        Due.is("two halves", nets.open(NONE), 8);
        Due.is("the last pair", nets.open(7), 16 * 7 + 3);
    }

    private static void promise20Prime() {
        GlitchNets nets = new GlitchNets();
        Due.is("none", nets.prime(NONE), 0);
        Due.is("of none the first", nets.prime(0), -12);
        nets.term(3, 3);
        nets.term(6, 4);
        int[] due = {51, 85, 100};
        Due.is("how many", nets.prime(NONE), 3);
        for (int k = 0; k < 3; k++) {
            Due.is("prime(" + k + ")", nets.prime(k), due[k]);
        }
        Due.is("k 3", nets.prime(3), -12);
        Due.is("k -2", nets.prime(-2), -12);
        Due.is("k least", nets.prime(LEAST), -12);
        Due.is("k most", nets.prime(MOST), -12);
        nets.term(15, 3);
        Due.is("a part of another is none", nets.prime(NONE), 3);
        nets.term(1, 1);
        Due.is("a greater one", nets.prime(NONE), 2);
        Due.is("of one care", nets.prime(0), 17);
        Due.is("of two", nets.prime(1), 100);
        nets.term(1, 0);
        Due.is("all", nets.prime(NONE), 1);
        Due.is("of no cares", nets.prime(0), 0);
        nets = new GlitchNets();
        nets.term(15, 6);
        Due.is("one alone", nets.prime(0), 246);
        nets.term(15, 9);
        Due.is("apart", 1000 * nets.prime(0) + nets.prime(1), 246249);
        nets.term(7, 0);
        Due.is("by cares, then by wants", nets.prime(0), 112);
        Due.is("and so on", nets.prime(1), 16 * 14 + 8);
        Due.is("and so on", nets.prime(2), 246);
    }

    private static void promise21Added() {
        GlitchNets nets = new GlitchNets();
        Due.is("none", nets.added(0), 0);
        Due.is("none", nets.added(1), 0);
        Due.is("what 2", nets.added(2), BAD);
        Due.is("what -1", nets.added(-1), BAD);
        nets.term(3, 3);
        nets.term(6, 4);
        Due.is("one", nets.added(0), 1);
        Due.is("the second prime", nets.added(1), 2);
        nets.term(5, 5);
        Due.is("none is open", nets.added(0), 0);
        Due.is("none is open", nets.added(1), 0);
        nets = new GlitchNets();
        int[] path = {0, 1, 3, 7, 15, 14, 12, 8};
        for (int s : path) {
            nets.term(15, s);
        }
        Due.is("a ring of eight: eight primes", nets.prime(NONE), 8);
        Due.is("each is wanted", nets.added(0), 8);
        Due.is("all their bits", nets.added(1), 255);
        nets = Given.cover(14, 14, 5, 4, 14, 2, 11, 3, 11, 0, 5, 1);
        Due.is("three, though lesser bits of four would do", nets.added(0), 3);
        Due.is("not 89", nets.added(1), 97);
        nets = Given.cover(5, 5, 11, 11, 15, 3, 6, 4, 5, 0, 11, 1);
        Due.is("four, of three such sets", nets.added(0), 4);
        Due.is("least by bits, not by the first prime", nets.added(1), 209);
        Due.is("THE COVER is as it was", nets.count(1), 6);
    }

    private static void promise22Told() {
        GlitchNets nets = Given.hazard();
        Due.is("film", nets.film(0, 117, 9), 9);
        Due.is("as told", nets.told(0, 117, 0, 0), NONE);
        Due.is("a gate does not matter by 0", nets.told(0, 117, MOST, 0), NONE);
        Due.is("delays of gate 0", nets.told(0, 117, 0, 1), 1 << 3);
        Due.is("delays of gate 3", nets.told(0, 117, 3, 1), 1 << 1);
        Due.is("kinds of gate 3", nets.told(0, 117, 3, 2), 1 << 2 | 1 << 4);
        Due.is("nothing changed", nets.gate(3, 0) + 10 * nets.gate(0, 3), 32);
        Due.is("no deeds", nets.count(2), 4);
        nets.put(0, 4, 1);
        Due.is("the first unlike", nets.told(0, 117, 0, 0), 4);
        Due.is("no delay fits", nets.told(0, 117, 0, 1), 0);
        Due.is("no kind fits", nets.told(0, 117, 3, 2), 0);
        nets.put(0, 0, 0);
        Due.is("the first of two", nets.told(0, 117, 0, 0), 0);
        nets.sheet(1, 1, 40);
        for (int i = 0; i < 40; i++) {
            nets.put(1, i, 1);
        }
        Due.is("ints", nets.told(1, 87, 0, 0), NONE);
        nets.put(1, 39, 257);
        Due.is("an int's high bits count", nets.told(1, 87, 0, 0), 39);
        nets.put(1, 39, -1);
        Due.is("an int below 0", nets.told(1, 87, 0, 0), 39);
        nets.sheet(2, 0, 0);
        Due.is("a row of none", nets.told(2, 117, 0, 0), NONE);
        Due.is("by a row of none all delays", nets.told(2, 117, 0, 1), 1022);
        Due.is("by a row of none all kinds", nets.told(2, 117, 0, 2), 63);
        int[] wrong = {-1, 4, LEAST, MOST};
        for (int w : wrong) {
            Due.is("sheet " + w, nets.told(w, 117, 0, 0), BAD);
            Due.is("gate " + w + " by 1", nets.told(0, 117, w, 1), BAD);
            Due.is("gate " + w + " by 2", nets.told(0, 117, w, 2), BAD);
            Due.is("what " + w, nets.told(0, 117, 0, w), BAD);
        }
        int[] wrongXy = {-1, 256, 0, 17, 255, LEAST, MOST};
        for (int w : wrongXy) {
            Due.is("xy " + w, nets.told(0, w, 0, 0), BAD);
        }
        Due.is("what 3", nets.told(0, 117, 0, 3), BAD);
        Due.is("missing", nets.told(3, 117, 0, 0), -11);
        Due.is("BAD ahead of missing", nets.told(3, 117, 4, 2), BAD);
        GlitchNets none = new GlitchNets();
        Due.is("STATE ahead of missing", none.told(0, 1, 0, 0), STATE);
        Due.is("no gate ahead of STATE", none.told(0, 1, 0, 1), BAD);
    }

    private static void promise22Kinds() {
        GlitchNets nets = Given.net("not a 2", "or 0 b 1");
        nets.film(0, 1, 10);
        Due.is("NOT as of a and a: nand, nor, not", nets.told(0, 1, 0, 2), 1 << 1 | 1 << 3 | 1 << 5);
        nets = Given.net("nand a b 1");
        nets.film(0, 16 * 2 + 3, 4);
        Due.is("NOT as of a alone, xor too", nets.told(0, 16 * 2 + 3, 0, 2), 1 << 1 | 1 << 4 | 1 << 5);
        nets = Given.net("not c 5", "and a b 7");
        nets.film(0, 3, 20);
        Due.is("delays of a gate apart", nets.told(0, 3, 0, 1), 1022);
        Due.is("kinds of a gate apart", nets.told(0, 3, 0, 2), 63);
        Due.is("delays of the output", nets.told(0, 3, 1, 1), 1 << 7);
        nets.film(0, 3, 7);
        Due.is("a short row fits by longer ones", nets.told(0, 3, 1, 1), 1 << 7 | 1 << 8 | 1 << 9);
        nets.delay(1, 9);
        Due.is("a delay that isn't its own", nets.told(0, 3, 1, 1), 1 << 7 | 1 << 8 | 1 << 9);
        nets.sheet(0, 0, 9);
        nets.put(0, 8, 1);
        Due.is("unlike now", nets.told(0, 3, 1, 0), 8);
        Due.is("fits by 8 alone", nets.told(0, 3, 1, 1), 1 << 8);
    }

    private static void promise23Film() {
        GlitchNets nets = Given.hazard();
        Due.is("none", nets.film(0, 117, 0), 0);
        Due.is("a row of none", nets.put(0, 0, 1), -12);
        Due.is("forty", nets.film(0, 117, 40), 40);
        Due.is("the last of forty", nets.put(0, 39, 1), 1);
        Due.is("behind it", nets.put(0, 40, 1), -12);
        Due.is("fewer", nets.film(0, 117, 5), 5);
        Due.is("it has just those", nets.put(0, 5, 1), -12);
        nets.sheet(1, 1, 7);
        Due.is("ints become bytes", nets.film(1, 117, 7), 7);
        nets.sheet(2, 0, 7);
        Due.is("of one sort", nets.copy(1, 0, 2, 0, 7), 7);
        Due.is("the wave", nets.told(2, 117, 0, 0), NONE);
        Due.is("not another one's", nets.told(2, 87, 0, 0), 3);
        int[] wrong = {-1, 4, LEAST, MOST};
        for (int w : wrong) {
            Due.is("sheet " + w, nets.film(w, 117, 1), BAD);
        }
        int[] wrongXy = {-1, 256, 0, 17, 255, LEAST, MOST};
        for (int w : wrongXy) {
            Due.is("xy " + w, nets.film(0, w, 1), BAD);
        }
        Due.is("n -1", nets.film(3, 117, -1), BAD);
        Due.is("n 41", nets.film(3, 117, 41), BAD);
        Due.is("still missing", nets.put(3, 0, 0), -11);
        GlitchNets none = new GlitchNets();
        Due.is("no gates", none.film(0, 117, 1), STATE);
        Due.is("BAD ahead of STATE", none.film(0, 117, 41), BAD);
        Due.is("still missing", none.put(0, 0, 0), -11);
        Due.is("no deed", nets.count(2), 4);
    }

    private static void promise24Undo() {
        GlitchNets nets = new GlitchNets();
        Due.is("none", nets.undo(), STATE);
        for (int i = 0; i < 8; i++) {
            nets.term(15, i);
        }
        Due.is("the latest six", nets.count(2), 6);
        for (int left = 5; left >= 0; left--) {
            Due.is("how many still", nets.undo(), left);
            Due.is("terms", nets.count(1), left + 2);
        }
        Due.is("none any more", nets.undo(), STATE);
        Due.is("the first two stay", nets.count(1), 2);
        nets.off(0);
        nets.term(3, 1);
        Due.is("two new deeds", nets.count(2), 2);
        nets.undo();
        nets.undo();
        Due.is("as it was", nets.termOf(0, 1) * 10 + nets.termOf(1, 1), 1);
    }

    private static void promise24EachDeed() {
        GlitchNets nets = Given.hazard();
        nets.delay(1, 7);
        nets.delay(1, 7);
        Due.is("the same one, too", nets.undo(), 5);
        Due.is("delay stays", nets.gate(1, 3), 7);
        Due.is("a delay", nets.undo(), 4);
        Due.is("delay is as ahead", nets.gate(1, 3), 2);
        Due.is("a gate", nets.undo(), 3);
        Due.is("gates", nets.count(0), 3);
        Due.is("the output is the one ahead", nets.table(), 0x3030);
        nets.term(1, 1);
        nets.term(2, 2);
        nets.term(4, 4);
        nets.off(1);
        nets.off(0);
        nets.undo();
        Due.is("first again", nets.termOf(0, 0) * 100 + nets.termOf(1, 0), 104);
        nets.undo();
        Due.is("between again", nets.termOf(1, 0) * 100 + nets.termOf(1, 1), 202);
        Due.is("behind again", nets.termOf(2, 1), 4);
        nets.undo();
        Due.is("the one that came goes", nets.count(1), 2);
        nets = new GlitchNets();
        for (int i = 0; i < 8; i++) {
            nets.term(15, i);
        }
        nets.off(7);
        nets.term(15, 8);
        nets.off(0);
        nets.undo();
        Due.is("eight again", nets.count(1), 8);
        Due.is("the eighth", nets.termOf(7, 1), 8);
        nets.undo();
        nets.undo();
        Due.is("the eighth that was", nets.termOf(7, 1), 7);
        Given.text(nets, "not a 1");
        nets.drop();
        Due.is("drop() leaves none", nets.undo(), STATE);
        Due.is("terms stay", nets.count(1), 8);
        Given.feed(nets, "not");
        Due.is("feed is none", nets.undo(), STATE);
    }

    private static void promise25Image() {
        GlitchNets nets = new GlitchNets();
        Due.is("of none", nets.image(), 0);
        Given.text(nets, "not a 1");
        nets.term(1, 1);
        Due.is("how many gates", nets.image(), 1);
        Due.is("deeds stay", nets.count(2), 2);
        Due.is("undo goes on", nets.undo(), 1);
        nets.undo();
        Due.is("all undone", nets.count(0) + nets.count(1), 0);
        Due.is("the later image", nets.back(), 1);
        Due.is("its term", nets.termOf(0, 0), 1);
    }

    private static void promise26Back() {
        GlitchNets nets = Given.hazard();
        Due.is("there is none", nets.back(), STATE);
        Due.is("a refused one leaves deeds", nets.count(2), 4);
        nets.term(3, 3);
        nets.term(6, 4);
        nets.image();
        nets.delay(0, 9);
        nets.term(5, 5);
        nets.off(0);
        nets.drop();
        Given.text(nets, "xor a b 4");
        Given.text(nets, "xor a b 4");
        Given.feed(nets, "nor");
        nets.sheet(0, 1, 3);
        Due.is("gates again", nets.back(), 4);
        Due.is("its delay", nets.gate(0, 3), 3);
        Due.is("its kind", nets.gate(3, 0), 2);
        Due.is("its terms", nets.count(1), 2);
        Due.is("its first term", nets.termOf(0, 0), 3);
        Due.is("no deeds", nets.count(2), 0);
        Due.is("the tape is as it is", nets.count(3), 3);
        Due.is("sheets are as they are", nets.put(0, 2, 5), 1);
        nets.delay(0, 9);
        nets.off(0);
        Due.is("twice", nets.back(), 4);
        Due.is("its delay, once more", nets.gate(0, 3), 3);
        Due.is("its terms, once more", nets.count(1), 2);
        Due.is("no deeds", nets.undo(), STATE);
    }

    private static void promise27Count() {
        GlitchNets nets = Given.hazard();
        nets.term(1, 0);
        Given.feed(nets, "abcdef");
        Due.is("gates", nets.count(0), 4);
        Due.is("terms", nets.count(1), 1);
        Due.is("deeds", nets.count(2), 5);
        Due.is("bytes", nets.count(3), 6);
        int[] wrong = {-1, 4, LEAST, MOST};
        for (int w : wrong) {
            Due.is("what " + w, nets.count(w), BAD);
        }
    }

    private static void promise28Sheet() {
        GlitchNets nets = Given.net("and a b 1");
        int[] wrong = {-1, 4, LEAST, MOST};
        for (int w : wrong) {
            Due.is("sheet " + w, nets.sheet(w, 0, 1), BAD);
            Due.is("sheet " + w + ", missing", nets.sheet(w, -1, 1), BAD);
        }
        int[] wrongSort = {-2, 2, LEAST, MOST};
        for (int w : wrongSort) {
            Due.is("sort " + w, nets.sheet(0, w, 1), BAD);
        }
        Due.is("n 41", nets.sheet(0, 0, 41), BAD);
        Due.is("n most", nets.sheet(0, 1, MOST), BAD);
        Due.is("n -1", nets.sheet(0, 0, -1), -14);
        Due.is("n least", nets.sheet(0, 1, LEAST), -14);
        Due.is("sort ahead of n", nets.sheet(0, 2, -1), BAD);
        Due.is("still missing", nets.put(0, 0, 0), -11);
        Due.is("forty", nets.sheet(0, 0, 40), 1);
        Due.is("its last", nets.put(0, 39, 1), 1);
        Due.is("its first", nets.put(0, 0, 1), 1);
        Due.is("all 0 again", nets.sheet(0, 0, 40), 1);
        Due.is("all are 0", nets.told(0, 1, 0, 0), NONE);
        Due.is("refused", nets.sheet(0, 0, -1), -14);
        Due.is("is as it was", nets.put(0, 39, 1), 1);
        Due.is("of none", nets.sheet(0, 1, 0), 1);
        Due.is("no item", nets.put(0, 0, 0), -12);
        Due.is("missing, n does not matter", nets.sheet(0, -1, 41), 1);
        Due.is("it is", nets.put(0, 0, 0), -11);
        Due.is("missing, n does not matter", nets.sheet(3, -1, LEAST), 1);
        Due.is("a row anew is all 0", nets.sheet(0, 0, 40), 1);
        Due.is("its last is 0", nets.told(0, 1, 0, 0), NONE);
    }

    private static void promise29Put() {
        GlitchNets nets = Given.net("and a a 1");
        nets.sheet(0, 0, 3);
        nets.sheet(1, 1, 3);
        Due.is("bytes", nets.put(0, 1, 256 + 1), 1);
        Due.is("its lowest 8 bits", nets.told(0, 1, 0, 0), 2);
        Due.is("bytes, below 0", nets.put(0, 2, -255), 1);
        Due.is("its lowest 8 bits", nets.told(0, 1, 0, 0), NONE);
        nets.put(1, 1, 257);
        Due.is("an int is whole", nets.told(1, 1, 0, 0), 1);
        nets.put(1, 1, 1);
        Due.is("the first item is put alone", nets.told(1, 1, 0, 0), 2);
        int[] wrong = {-1, 4, LEAST, MOST};
        for (int w : wrong) {
            Due.is("sheet " + w, nets.put(w, 0, 0), BAD);
        }
        Due.is("missing", nets.put(2, -1, 0), -11);
        int[] outside = {-1, 3, LEAST, MOST};
        for (int w : outside) {
            Due.is("item " + w, nets.put(0, w, 0), -12);
        }
    }

    private static void promise30Copy() {
        GlitchNets nets = Given.net("and a a 1");
        nets.sheet(0, 1, 4);
        nets.sheet(1, 1, 6);
        nets.sheet(2, 0, 6);
        nets.put(0, 1, 1);
        nets.put(0, 2, 1);
        Due.is("copy", nets.copy(0, 1, 1, 1, 2), 2);
        nets.put(1, 3, 1);
        nets.put(1, 4, 1);
        Due.is("come to their places", nets.told(1, 1, 0, 0), 5);
        Due.is("all", nets.copy(0, 0, 1, 2, 4), 4);
        Due.is("as they were there", nets.told(1, 1, 0, 0), 2);
        Due.is("of none", nets.copy(0, 4, 1, 6, 0), 0);
        int[] wrong = {-1, 4, LEAST, MOST};
        for (int w : wrong) {
            Due.is("sheet " + w, nets.copy(w, 0, 1, 0, 1), BAD);
            Due.is("other " + w, nets.copy(0, 0, w, 0, 1), BAD);
        }
        Due.is("BAD ahead of missing", nets.copy(3, 0, 4, 0, 1), BAD);
        Due.is("missing", nets.copy(3, 0, 1, 0, 1), -11);
        Due.is("other missing", nets.copy(1, 0, 3, 0, 1), -11);
        Due.is("missing ahead of outside", nets.copy(3, -1, 1, 0, 1), -11);
        Due.is("unlike sorts", nets.copy(0, 0, 2, 0, 1), -13);
        Due.is("unlike sorts, of none, outside", nets.copy(0, 9, 2, 9, 0), -13);
        int[][] outside = {{-1, 0, 1}, {0, -1, 1}, {0, 0, -1}, {0, 0, 5}, {1, 0, 4}, {4, 0, 1}, {5, 0, 0}, {0, 7, 0},
            {0, 3, 4}, {MOST, 0, 1}, {0, MOST, 1}, {0, 0, MOST}, {1, 1, MOST}, {LEAST, 0, 1}, {0, LEAST, 1}, {0, 0, LEAST},
            {MOST, MOST, MOST}, {-1, -1, 0}};
        for (int[] o : outside) {
            Due.is("outside: " + o[0] + ", " + o[1] + ", " + o[2], nets.copy(0, o[0], 1, o[1], o[2]), -12);
        }
        nets.sheet(3, 1, 4);
        nets.put(3, 1, 1);
        Due.is("to itself, as they were", nets.copy(3, 0, 3, 1, 3), 3);
        nets.put(3, 1, 1);
        Due.is("0, 1, 1, 0: an 8 is not 1 at 3", nets.told(3, 1, 0, 0), 3);
        nets.sheet(3, 1, 5);
        nets.put(3, 2, 1);
        nets.put(3, 3, 1);
        nets.put(3, 4, 1);
        Due.is("to itself, back", nets.copy(3, 1, 3, 0, 4), 4);
        Due.is("moved by one", nets.told(3, 1, 0, 0), NONE);
    }

    private static void promise31Load() {
        GlitchNets nets = new GlitchNets();
        Given.row(nets, 0, 1, 9, 3, 3, 4, 4, 1, 2, 5, 5);
        Due.is("from one on: 3 3, 4 4; 1 2 is left out", nets.load(0, 1, 1, 3), 2);
        Due.is("first", 100 * nets.termOf(0, 0) + nets.termOf(0, 1), 303);
        Due.is("second", 100 * nets.termOf(1, 0) + nets.termOf(1, 1), 404);
        Due.is("a deed each", nets.count(2), 2);
        Due.is("what stood ahead came", nets.load(0, 1, 7, 2), -12);
        Due.is("5 5 came", nets.termOf(2, 1), 5);
        Due.is("deeds", nets.count(2), 3);
        Due.is("half a term", nets.load(0, 1, 8, 1), -12);
        Due.is("none came", nets.count(1), 3);
        int[] outside = {-1, -2, 9, LEAST, MOST, MOST - 1};
        for (int from : outside) {
            Due.is("from " + from, nets.load(0, 1, from, 1), -12);
            Due.is("from " + from + ", of none", nets.load(0, 1, from, 0), 0);
        }
        int[] wrong = {-1, 4, LEAST, MOST};
        for (int w : wrong) {
            Due.is("sheet " + w, nets.load(w, 1, 0, 0), BAD);
        }
        int[] wrongSort = {-1, 2, LEAST, MOST};
        for (int w : wrongSort) {
            Due.is("sort " + w, nets.load(0, w, 0, 0), BAD);
            Due.is("sort " + w + " of a missing one", nets.load(3, w, 0, 0), BAD);
        }
        int[] wrongN = {-1, 9, LEAST, MOST};
        for (int w : wrongN) {
            Due.is("n " + w, nets.load(0, 1, 0, w), BAD);
        }
        Due.is("another sort", nets.load(0, 0, 0, 1), -13);
        Due.is("another sort, of none", nets.load(0, 0, 0, 0), -13);
        Due.is("missing", nets.load(3, 0, 0, 1), -11);
        Due.is("missing, of none", nets.load(3, 1, 0, 0), -11);
        nets.sheet(1, 0, 16);
        Due.is("eight of bytes, the last three are FULL", nets.load(1, 0, 0, 8), 5);
        Due.is("eight", nets.count(1), 8);
        Due.is("FULL, then outside", nets.load(1, 0, 14, 2), -12);
        Due.is("all BAD or FULL", nets.load(1, 0, 0, 8), 0);
        nets.off(7);
        nets.put(1, 0, 255);
        Due.is("a byte above 15 is left out", nets.load(1, 0, 0, 1), 0);
        nets.put(1, 0, 256 + 3);
        nets.put(1, 1, 256 + 1);
        Due.is("a byte's lowest bits", nets.load(1, 0, 0, 1), 1);
        Due.is("its term", 100 * nets.termOf(7, 0) + nets.termOf(7, 1), 301);
    }
}
