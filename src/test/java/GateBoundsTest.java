import java.util.List;

/** The bounds in the first block of "Terms": gates and their texts. The last that is taken, the first that isn't; the empty, the full. */
public final class GateBoundsTest {
    private static final int BAD = -2, STATE = -3, FULL = -4;
    private static final String PADS = "                              ";
    private static final String[] TWO_SOURCE_WORDS = {"and", "nand", "or", "nor", "xor"};

    private GateBoundsTest() {
    }

    public static void main(String[] args) {
        calls512();
        inputs();
        gates();
        sources();
        delays();
        kinds();
        output();
        codes();
        tape();
        words();
        numbers();
        blanks();
        texts();
        textSources();
        faults();
        Due.end("GateBoundsTest");
    }

    private static String padded(String text) {
        return text + PADS.substring(text.length());
    }

    private static void calls512() {
        Due.by("An object is used for at most 512 calls after it has been made");
        GlitchNets nets = Given.net("not a 9");
        for (int call = 4; call <= 511; call++) {
            Due.is("call " + call, nets.delay(0, 1 + call % 9), call == 4 ? 9 : 1 + (call - 1) % 9);
        }
        Due.is("call 512", nets.gate(0, 3), 1 + 511 % 9);
    }

    private static void inputs() {
        Due.by("INPUTS a, b, c, d (0 .. 3)");
        for (int input = 0; input <= 3; input++) {
            GlitchNets nets = Given.net("not " + (char) ('a' + input) + " 1");
            Due.is("source of INPUT " + input, nets.gate(0, 1), -1 - input);
        }
        Due.is("ahead of a", Given.text(new GlitchNets(), "not ` 1"), -104);
        Due.is("behind d", Given.text(new GlitchNets(), "not e 1"), -104);

        Due.by("how they stand is told as bits (a the lowest; 0 .. 15)");
        GlitchNets nets = Given.net("and a a 1", "and b b 1", "and c c 1", "and d d 1");
        for (int input = 0; input <= 3; input++) {
            for (int bit = 0; bit <= 3; bit++) {
                Due.is("INPUT " + input + " at bit " + bit, nets.tells(input, 1 << bit), input == bit ? 1 : 0);
            }
            Due.is("INPUT " + input + " at 0", nets.tells(input, 0), 0);
            Due.is("INPUT " + input + " at 15", nets.tells(input, 15), 1);
            Due.is("INPUT " + input + " at -1", nets.tells(input, -1), BAD);
            Due.is("INPUT " + input + " at 16", nets.tells(input, 16), BAD);
        }
    }

    private static void gates() {
        Due.by("GATES (12 at most; a call that would make a 13th is FULL)");
        GlitchNets nets = Given.twelve();
        Due.is("twelve", nets.count(0), 12);
        Due.is("a 13th", Given.text(nets, "and a b 1"), FULL);
        Due.is("a 13th by NOT", Given.text(nets, "not 11 1"), FULL);
        Due.is("still twelve", nets.count(0), 12);
        Due.is("the 12th is as it was", nets.gate(11, 0), 4);
        Due.is("no deed came", nets.undo(), 5);
        Due.is("eleven", nets.count(0), 11);
        Due.is("room for one behind undo()", Given.text(nets, "not b 2"), 11);
        Due.is("for just one", Given.text(nets, "not b 2"), FULL);
        nets.image();
        nets.drop();
        Due.is("room for one behind drop()", Given.text(nets, "not c 3"), 11);
        Due.is("for just one", Given.text(nets, "not b 2"), FULL);
        Due.is("back to twelve", nets.back(), 12);
        Due.is("no room behind back()", Given.text(nets, "not b 2"), FULL);
        Due.is("the 12th of the image", nets.gate(11, 1), -2);

        Due.by("are numbered from 0 as they come");
        nets = new GlitchNets();
        for (int gate = 0; gate < 12; gate++) {
            Due.is("number", Given.text(nets, "not a 1"), gate);
        }
        nets.drop();
        nets.drop();
        Due.is("number behind drop()", Given.text(nets, "not a 1"), 10);
    }

    private static void sources() {
        Due.by("each an INPUT or a GATE of a lesser number (told as -1 less the INPUT, or the GATE's number)");
        GlitchNets nets = new GlitchNets();
        for (int gate = 0; gate < 12; gate++) {
            Due.is("its own number", Given.text(nets, "not " + gate + " 1"), -104);
            Due.is("its own number for SECOND", Given.text(nets, "or a " + gate + " 1"), -105);
            Due.is("a greater number", Given.text(nets, "not " + (gate + 1) + " 1"), -104);
            String lesser = gate == 0 ? "d" : String.valueOf(gate - 1);
            Due.is("a lesser one", Given.text(nets, "or " + lesser + " a 1"), gate);
            Due.is("told", nets.gate(gate, 1), gate == 0 ? -4 : gate - 1);
            Due.is("SECOND told", nets.gate(gate, 2), -1);
        }
        nets = Given.net("not a 1", "not a 1", "and 0 1 1");
        Due.is("GATE 0", nets.gate(2, 1), 0);
        Due.is("GATE 1", nets.gate(2, 2), 1);
        nets.drop();
        Due.is("a GATE that went", Given.text(nets, "not 2 1"), -104);

        Due.by("(but for NOT) a SECOND one");
        Due.is("SECOND of NOT is as FIRST", Given.net("not c 1").gate(0, 2), -3);
        Due.is("of a GATE", Given.net("not c 1", "not 0 1").gate(1, 2), 0);
    }

    private static void delays() {
        Due.by("a DELAY (1 .. 9)");
        for (int delay = 1; delay <= 9; delay++) {
            GlitchNets nets = Given.net("xor a b " + delay);
            Due.is("by a TEXT", nets.gate(0, 3), delay);
            GlitchNets other = Given.net("not a 5");
            Due.is("told", other.delay(0, delay), 5);
            Due.is("by delay()", other.gate(0, 3), delay);
        }
        for (int delay : new int[] {0, 10}) {
            Due.is("by a TEXT " + delay, Given.text(new GlitchNets(), "not a " + delay), -106);
            Due.is("told " + delay, Given.net("not a 5").delay(0, delay), BAD);
        }
    }

    private static void kind(String sentence, String word, int kind, int neither, int firstAlone, int secondAlone, int both) {
        Due.by(sentence);
        GlitchNets nets = Given.net(word + (kind == 5 ? " a 1" : " a b 1"));
        Due.is("KIND", nets.gate(0, 0), kind);
        for (int rest = 0; rest <= 12; rest += 4) {
            Due.is("neither", nets.tells(0, rest), neither);
            Due.is("FIRST alone", nets.tells(0, rest + 1), firstAlone);
            Due.is("SECOND alone", nets.tells(0, rest + 2), secondAlone);
            Due.is("both", nets.tells(0, rest + 3), both);
        }
    }

    private static void kinds() {
        kind("0 AND: 1 if both sources are 1.", "and", 0, 0, 0, 0, 1);
        kind("1 NAND under AND: the other way.", "nand", 1, 1, 1, 1, 0);
        kind("2 OR: 1 if one of both is, or both are.", "or", 2, 0, 1, 1, 1);
        kind("3 NOR under OR: the other way.", "nor", 3, 1, 0, 0, 0);
        kind("4 XOR: 1 if just one of both is.", "xor", 4, 0, 1, 1, 0);
        kind("5 NOT: the other way of FIRST.", "not", 5, 1, 0, 1, 0);
    }

    private static void output() {
        Due.by("THE OUTPUT: the GATE of the greatest number");
        GlitchNets nets = new GlitchNets();
        for (int gate = 0; gate < 12; gate++) {
            Given.text(nets, gate % 2 == 0 ? "and b b 1" : "not a 1");
            Due.is("THE TABLE of GATE " + gate, nets.table(), gate % 2 == 0 ? 0xCCCC : 0x5555);
        }
        for (int left = 11; left >= 1; left--) {
            nets.drop();
            Due.is("THE TABLE of " + left, nets.table(), left % 2 == 1 ? 0xCCCC : 0x5555);
        }

        Due.by("without GATES nothing is told of it (STATE)");
        outputOfNone("new", new GlitchNets());
        GlitchNets dropped = Given.hazard();
        while (dropped.count(0) > 0) {
            dropped.drop();
        }
        outputOfNone("dropped", dropped);
        GlitchNets undone = Given.net("not a 1");
        undone.undo();
        outputOfNone("undone", undone);
        GlitchNets laidBack = new GlitchNets();
        laidBack.image();
        Given.text(laidBack, "not a 1");
        laidBack.back();
        outputOfNone("laid back", laidBack);
    }

    private static void outputOfNone(String how, GlitchNets nets) {
        nets.sheet(0, 0, 4);
        Due.is(how + ": table", nets.table(), STATE);
        Due.is(how + ": wave", nets.wave(0, 1, 0), STATE);
        Due.is(how + ": worst", nets.worst(0), STATE);
        Due.is(how + ": path", nets.path(0), STATE);
        Due.is(how + ": covered", nets.covered(1), STATE);
        Due.is(how + ": covered by 0", nets.covered(0), 0);
        Due.is(how + ": told", nets.told(0, 1, 0, 0), STATE);
        Due.is(how + ": film", nets.film(0, 1, 4), STATE);
        for (int what = 0; what <= 2; what++) {
            Due.is(how + ": change by " + what, nets.change(0, 1, what), STATE);
            Due.is(how + ": glitches of " + what, nets.glitches(what), STATE);
        }
    }

    private static void codes() {
        Due.by("NONE is -1");
        Due.is("NONE", GlitchNets.NONE, -1);
        Due.by("BAD (-2: a number is none such or not as told), STATE (-3), FULL (-4)");
        Due.is("BAD", GlitchNets.BAD, -2);
        Due.is("STATE", GlitchNets.STATE, -3);
        Due.is("FULL", GlitchNets.FULL, -4);
        Due.by("of SHEETS: -11 it is missing, -12 a place outside, -13 a thing of another sort, -14 a size below 0");
        GlitchNets nets = new GlitchNets();
        Due.is("missing", nets.put(0, 0, 0), -11);
        Due.is("a size below 0", nets.sheet(0, 0, -1), -14);
        nets.sheet(0, 0, 1);
        nets.sheet(1, 1, 1);
        Due.is("a place outside", nets.put(0, 1, 0), -12);
        Due.is("another sort", nets.copy(0, 0, 1, 0, 1), -13);
    }

    private static void tape() {
        Due.by("THE TAPE (30 bytes at most)");
        for (int n = 1; n <= 5; n++) {
            GlitchNets nets = new GlitchNets();
            Given.feed(nets, PADS.substring(n));
            Due.is("just room for " + n, nets.feed(n, 1, 1, 1, 1, 1), 30);
            Due.is("no room for one", nets.feed(1, 1, 1, 1, 1, 1), FULL);
            nets = new GlitchNets();
            Given.feed(nets, PADS.substring(n - 1));
            Due.is("one too few for " + n, nets.feed(n, 1, 1, 1, 1, 1), FULL);
            Due.is("none of them came", nets.count(3), 31 - n);
            Due.is("what has room comes", n == 1 ? 30 : nets.feed(n - 1, 1, 1, 1, 1, 1), 30);
            nets.text();
            Due.is("room again", nets.feed(n, 1, 1, 1, 1, 1), n);
        }
        String whole = "not a" + PADS.substring(6) + "9";
        Due.is("30 bytes", whole.length(), 30);
        Due.is("a TEXT of 30 bytes", Given.text(new GlitchNets(), whole), 0);
        Due.is("a FAULT at the 30th", Given.text(new GlitchNets(), "not a" + PADS.substring(6) + "!"), -129);
        Due.is("a TEXT of 30 bytes that ends too early", Given.text(new GlitchNets(), padded("not a")), -130);
    }

    private static void words() {
        Due.by("WORDS (a .. z, as many letters as stand there)");
        for (int v = 0; v <= 255; v++) {
            int due = v >= 'a' && v <= 'z' ? -100 : v == ' ' ? -104 : -103;
            GlitchNets nets = new GlitchNets();
            Given.feed(nets, "not" + (char) v);
            Due.is("not, then " + v, nets.text(), due);
            Given.feed(nets, (char) v + "not");
            Due.is("not behind " + v, nets.text(), v == ' ' ? -104 : -100);
        }
        Due.is("a WORD of 30 letters", Given.text(new GlitchNets(), "nnnnnnnnnnnnnnnnnnnnnnnnnnnnnn"), -100);
        Due.is("a WORD of two where one may stand", Given.text(new GlitchNets(), "not az 1"), -104);
    }

    private static void numbers() {
        Due.by("NUMBERS (digits, as many as stand there)");
        for (int v = 0; v <= 255; v++) {
            boolean digit = v >= '0' && v <= '9';
            Due.is("1, then " + v, Given.text(new GlitchNets(), "not a 1" + (char) v), v == ' ' ? 0 : digit ? -106 : -107);
            Due.is("0, then " + v, Given.text(new GlitchNets(), "not a 0" + (char) v), digit && v != '0' ? 0 : -106);
        }
        Due.is("a NUMBER of 30 digits", Given.text(new GlitchNets(), "012345678901234567890123456789"), -100);
        Due.is("a NUMBER of 20 digits for a DELAY", Given.text(new GlitchNets(), "not a 00000000000000000001"), -106);

        Due.by("NUMBERS of more than two digits are neither; 05 is 5.");
        GlitchNets nets = Given.net("not a 1", "not b 1");
        Due.is("1 for a GATE", Given.text(nets, "not 1 1"), 2);
        Due.is("01 for a GATE", Given.text(nets, "not 01 1"), 3);
        Due.is("its GATE", nets.gate(3, 1), 1);
        Due.is("00 for a GATE", Given.text(nets, "not 00 1"), 4);
        Due.is("its GATE", nets.gate(4, 1), 0);
        Due.is("001 for a GATE", Given.text(nets, "not 001 1"), -104);
        Due.is("000 for SECOND", Given.text(nets, "or 00 000 1"), -106);
        Due.is("9 for a DELAY", Given.text(nets, "not a 9"), 5);
        Due.is("09 for a DELAY", Given.text(nets, "not a 09"), 6);
        Due.is("05 is 5", Given.text(nets, "not 05 05"), 7);
        Due.is("05 is 5 for a GATE", nets.gate(7, 1), 5);
        Due.is("05 is 5 for a DELAY", nets.gate(7, 3), 5);
        Due.is("009 for a DELAY", Given.text(nets, "not a 009"), -106);
        Due.is("00 for a DELAY", Given.text(nets, "not a 00"), -106);
        Due.is("10 for a DELAY", Given.text(nets, "not a 10"), -106);
        Due.is("99 for a DELAY", Given.text(nets, "not a 99"), -106);
    }

    private static void blanks() {
        Due.by("parted by blanks (32, one or more; also ahead and behind)");
        Due.is("one", Given.text(new GlitchNets(), "not a 1"), 0);
        Due.is("many", Given.text(new GlitchNets(), "not            a             1"), 0);
        Due.is("ahead", Given.text(new GlitchNets(), PADS.substring(7) + "not a 1"), 0);
        Due.is("behind", Given.text(new GlitchNets(), padded("not a 1")), 0);
        Due.is("about", Given.text(new GlitchNets(), " not a 1 "), 0);
        for (int v : new int[] {0, 9, 10, 13, 31, 33, 160, 255}) {
            Due.is("ahead, " + v, Given.text(new GlitchNets(), (char) v + "not a 1"), -100);
            Due.is("between, " + v, Given.text(new GlitchNets(), "not" + (char) v + "a 1"), -103);
            Due.is("behind, " + v, Given.text(new GlitchNets(), "not a 1" + (char) v), -107);
        }
        Due.is("two WORDS side by side are one", Given.text(new GlitchNets(), "nota 1"), -100);
        Due.is("two NUMBERS side by side are one", Given.text(Given.net("not a 1", "not b 1"), "not 01"), -106);

        Due.by("a letter and a digit may stand side by side");
        Due.is("a letter, then a digit", Given.text(new GlitchNets(), "not a1"), 0);
        GlitchNets nets = Given.net("not a 1");
        Due.is("a digit, then a letter", Given.text(nets, "or 0a 1"), 1);
        Due.is("all", Given.text(nets, "or1c2"), 2);
        Due.is("FIRST", nets.gate(2, 1), 1);
        Due.is("SECOND", nets.gate(2, 2), -3);
        Due.is("DELAY", nets.gate(2, 3), 2);
        Due.is("NOT of 0 and a DELAY", Given.text(nets, "not0 3"), 3);
    }

    private static void texts() {
        Due.by("TEXT: and, nand, or, nor, xor, each with two SOURCES and a DELAY; not with one SOURCE and a DELAY; then the end.");
        for (int kind = 0; kind < TWO_SOURCE_WORDS.length; kind++) {
            String word = TWO_SOURCE_WORDS[kind];
            int n = word.length();
            GlitchNets nets = Given.net("not a 1", "not b 1");
            Due.is(word, Given.text(nets, word + " c 1 7"), 2);
            Due.is("its KIND", nets.gate(2, 0), kind);
            Due.is("its FIRST", nets.gate(2, 1), -3);
            Due.is("its SECOND", nets.gate(2, 2), 1);
            Due.is("its DELAY", nets.gate(2, 3), 7);
            Due.is("with one SOURCE", Given.text(nets, word + " c 1"), -100 - (n + 4));
            Due.is("with three", Given.text(nets, word + " c 1 a 1"), -100 - (n + 5));
            Due.is("without a SOURCE", Given.text(nets, word + " 1"), -100 - (n + 2));
            Due.is("then a WORD", Given.text(nets, word + " c 1 7 a"), -100 - (n + 7));
            Due.is("then a NUMBER", Given.text(nets, word + " c 1 7 1"), -100 - (n + 7));
            Due.is("then another byte", Given.text(nets, word + " c 1 7 -"), -100 - (n + 7));
            Due.is("a letter short", Given.text(nets, word.substring(0, n - 1) + " c 1 7"), -100);
            Due.is("a letter more", Given.text(nets, word + word.charAt(n - 1) + " c 1 7"), -100);
            Due.is("of great letters", Given.text(nets, word.toUpperCase() + " c 1 7"), -100);
            Due.is("no GATE came by these", nets.count(0), 3);
        }
        GlitchNets nets = Given.net("not a 1", "not b 1");
        Due.is("not", Given.text(nets, "not 1 7"), 2);
        Due.is("not with two", Given.text(nets, "not 1 c 7"), -106);
        Due.is("not with none", Given.text(nets, "not 1"), -105);
        Due.is("not, then more", Given.text(nets, "not 1 7 7"), -108);
        for (String word : List.of("no", "nott", "ot", "nan", "an", "r", "o", "xo", "x", "a", "nnor", "xnor", "buf")) {
            Due.is(word, Given.text(nets, word + " a b 1"), -100);
        }
    }

    private static void textSources() {
        Due.by("SOURCE: a WORD a, b, c or d, or a NUMBER of a GATE that there is.");
        for (int gates = 0; gates <= 12; gates++) {
            GlitchNets nets = new GlitchNets();
            for (int i = 0; i < gates; i++) {
                Given.text(nets, "not a 1");
            }
            for (int source = 0; source <= 99; source++) {
                int comes = gates == 12 ? FULL : gates;
                Due.is(source + " of " + gates, Given.text(nets, "not " + source + " 1"), source < gates ? comes : -104);
                if (source < gates && gates < 12) {
                    nets.undo();
                }
            }
        }
        for (char letter = 'a'; letter <= 'z'; letter++) {
            Due.is("WORD " + letter, Given.text(new GlitchNets(), "not " + letter + " 1"), letter <= 'd' ? 0 : -104);
            Due.is("WORD " + letter + " for SECOND", Given.text(new GlitchNets(), "or a " + letter + " 1"), letter <= 'd' ? 0 : -105);
            Due.is("a WORD of two", Given.text(new GlitchNets(), "not " + letter + letter + " 1"), -104);
        }
        for (String no : List.of("A", "D", "not", "and", "abcd", "-1", "+0", ".")) {
            Due.is(no, Given.text(Given.net("not a 1"), "not " + no + " 1"), -104);
        }

        Due.by("DELAY: a NUMBER 1 .. 9.");
        for (int delay = 0; delay <= 99; delay++) {
            Due.is("DELAY " + delay, Given.text(new GlitchNets(), "not a " + delay), delay >= 1 && delay <= 9 ? 0 : -106);
        }
        Due.is("a WORD for DELAY", Given.text(new GlitchNets(), "not a b"), -106);
        Due.is("another byte for DELAY", Given.text(new GlitchNets(), "not a -1"), -106);
    }

    private static void faults() {
        Due.by("the place (from 0) of the first byte of the first WORD, NUMBER or other byte, from left to right, that can't stand there");
        Due.is("the first place", Given.text(new GlitchNets(), "!"), -100);
        Due.is("the last place", Given.text(new GlitchNets(), PADS.substring(1) + "!"), -129);
        Due.is("of two the first", Given.text(new GlitchNets(), "and e z 0"), -104);
        Due.is("of two the first, the KIND", Given.text(new GlitchNets(), "put e b 0"), -100);
        Due.is("of two the second is later", Given.text(new GlitchNets(), "and a z 0"), -106);
        Due.is("the first byte of a long one", Given.text(new GlitchNets(), "  and a boot 1"), -108);
        Due.is("the first byte of a long NUMBER", Given.text(new GlitchNets(), "and a b 1234 !"), -108);
        Due.is("an other byte within", Given.text(new GlitchNets(), "an!d a b 1"), -100);
        Due.is("an other byte side by side", Given.text(new GlitchNets(), "and!a b 1"), -103);
        Due.is("of two other bytes the first", Given.text(new GlitchNets(), "and a b 1 ?!"), -110);
        Due.is("a FAULT is told ahead of what lacks", Given.text(new GlitchNets(), "and 7"), -104);

        Due.by("the size of the text, if it ends too early");
        String[] early = {"", " ", "and", "and ", "and a", "and a ", "and a b", "and a b ", "not", "not  ", "not a", "not a  "};
        for (String text : early) {
            Due.is("'" + text + "'", Given.text(new GlitchNets(), text), -100 - text.length());
        }
        Due.is("all blanks", Given.text(new GlitchNets(), PADS), -130);
        Due.is("29 of them", Given.text(new GlitchNets(), PADS.substring(1)), -129);
    }
}
