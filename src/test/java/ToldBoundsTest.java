/** The bounds in the third block of "Terms": what sheets tell, deeds, images. The last that is taken, the first that isn't; the empty, the full. */
public final class ToldBoundsTest {
    private static final int NONE = -1, BAD = -2, STATE = -3;
    private static final int LEAST = Given.LEAST, MOST = Given.MOST;

    private ToldBoundsTest() {
    }

    public static void main(String[] args) {
        toldFirst();
        toldBits();
        sixDeeds();
        eachDeed();
        endOfDeeds();
        images();
        sheets();
        Due.end("ToldBoundsTest");
    }

    private static void toldFirst() {
        Due.by("a SHEET tells THE WAVE of a CHANGE from time 0 on (40 at most): the first place (from 0) where the number isn't what THE OUTPUT tells; NONE");
        GlitchNets nets = Given.hazard();
        for (int place = 0; place < 40; place++) {
            nets.film(0, 0x75, 40);
            nets.put(0, place, 1 - nets.wave(7, 5, place));
            Due.is("one otherwise, at " + place, nets.told(0, 0x75, 0, 0), place);
            nets.put(0, 39, 2);
            Due.is("two otherwise, first at " + place, nets.told(0, 0x75, 0, 0), place);
        }
        nets = Given.hazard();
        for (int n = 0; n <= 40; n++) {
            nets.film(0, 0x75, n);
            Due.is("as told, of " + n, nets.told(0, 0x75, 0, 0), NONE);
        }
        Given.row(nets, 1, 1);
        Due.is("ints of none", nets.told(1, 0x75, 0, 0), NONE);
        Given.row(nets, 1, 1, 1);
        Due.is("an int", nets.told(1, 0x75, 0, 0), NONE);
        for (int v : new int[] {0, 2, -1, 257, LEAST, MOST, LEAST + 1}) {
            Given.row(nets, 1, 1, v);
            Due.is("int " + v, nets.told(1, 0x75, 0, 0), 0);
        }
        for (int v : new int[] {0, 2, 3, 127, 128, 129, 255}) {
            Given.row(nets, 1, 0, v);
            Due.is("byte " + v, nets.told(1, 0x75, 0, 0), 0);
        }
    }

    private static void toldBits() {
        Due.by("DELAYS (bits 1 .. 9)");
        GlitchNets nets = Given.net("not a 5");
        nets.sheet(0, 0, 0);
        Due.is("all, of no numbers", nets.told(0, 1, 0, 1), 1022);
        Given.row(nets, 0, 0, 0);
        Due.is("none", nets.told(0, 1, 0, 1), 0);
        for (int delay = 1; delay <= 9; delay++) {
            nets.delay(0, delay);
            nets.film(0, 1, 40);
            nets.film(1, 1, delay);
            nets.delay(0, 5);
            Due.is("DELAY " + delay + " alone", nets.told(0, 1, 0, 1), 1 << delay);
            Due.is("no less than " + delay, nets.told(1, 1, 0, 1), (1 << 10) - (1 << delay));
            Due.is("DELAY is as it was", nets.gate(0, 3), 5);
        }

        Due.by("KINDS (bits 0 .. 5; with sources and DELAY as they are, one that was NOT has FIRST for SECOND, too)");
        String[] each = {"and a b 3", "nand a b 3", "or a b 3", "nor a b 3", "xor a b 3", "not a 3"};
        for (String shown : each) {
            nets = Given.net(shown);
            nets.sheet(0, 0, 0);
            Due.is("all, of no numbers, " + shown, nets.told(0, 1, 0, 2), 63);
            Given.row(nets, 0, 0, 2);
            Due.is("none, " + shown, nets.told(0, 1, 0, 2), 0);
            if (shown.contains("b")) {
                kindsTold(shown, 0x01, 0, 0, 1);
                kindsTold(shown, 0x01, 1, 1, 1 << 1);
                kindsTold(shown, 0x13, 1, 1, 1 << 2);
                kindsTold(shown, 0x02, 1, 0, 1 << 3);
                kindsTold(shown, 0x03, 0, 0, 1 << 4);
                kindsTold(shown, 0x12, 0, 1, 1 << 5);
                kindsTold(shown, 0x12, 0, 0, 1 | 1 << 3);
                kindsTold(shown, 0x23, 1, 0, 1 << 1 | 1 << 4 | 1 << 5);
            }
        }
        kindsTold("not a 3", 0x01, 1, 0, 1 << 1 | 1 << 3 | 1 << 5);
        kindsTold("not a 3", 0x01, 0, 1, 1 | 1 << 2);
        kindsTold("not a 3", 0x01, 0, 0, 1 << 4);
        kindsTold("not a 3", 0x12, 0, 1, 1 << 1 | 1 << 3 | 1 << 5);
        nets = Given.net("and a b 3");
        nets.film(0, 0x03, 10);
        Due.is("by its own DELAY", nets.told(0, 0x03, 0, 2), 1 | 1 << 2);
        nets.delay(0, 4);
        Due.is("by another one none", nets.told(0, 0x03, 0, 2), 0);
        Due.is("KIND is as it was", nets.gate(0, 0), 0);
    }

    /** A gate of delay 3: it flips at 3, if it does. */
    private static void kindsTold(String shown, int xy, int ahead, int behind, int due) {
        GlitchNets nets = Given.net(shown);
        Given.row(nets, 0, 0, ahead, ahead, ahead, behind, behind);
        Due.is("KINDS for " + shown + " by " + ahead + ", then " + behind, nets.told(0, xy, 0, 2), due);
    }

    private static void sixDeeds() {
        Due.by("the latest 6 can be UNDONE, the latest first");
        for (int deeds = 0; deeds <= 12; deeds++) {
            GlitchNets nets = Given.net("not a 9");
            nets.drop();
            for (int i = 0; i < deeds; i++) {
                Given.text(nets, "not b " + (1 + i % 9));
            }
            int can = Math.min(deeds, 6);
            Due.is("of " + deeds, nets.count(2), can);
            for (int left = can - 1; left >= 0; left--) {
                Due.is("how many still, of " + deeds, nets.undo(), left);
                Due.is("GATES left, of " + deeds, nets.count(0), deeds - can + left);
            }
            Due.is("no more, of " + deeds, nets.undo(), STATE);
            Due.is("those ahead of them stay, of " + deeds, nets.count(0), deeds - can);
        }
        GlitchNets nets = Given.net("not a 1");
        for (int v = 2; v <= 9; v++) {
            nets.delay(0, v);
        }
        for (int was = 8; was >= 3; was--) {
            nets.undo();
            Due.is("the latest first", nets.gate(0, 3), was);
        }
        Due.is("the seventh can't be", nets.undo(), STATE);
        Due.is("it stays", nets.gate(0, 3), 3);
        nets.delay(0, 9);
        Due.is("a new one can", nets.undo(), 0);
        Due.is("and is", nets.gate(0, 3), 3);
    }

    private static void eachDeed() {
        Due.by("a GATE that came by a TEXT, a DELAY that was told (the same one, too), a TERM that came (by load() each one), a TERM that went");
        GlitchNets nets = new GlitchNets();
        Given.text(nets, "not a 4");
        Due.is("a GATE that came", nets.count(2), 1);
        nets.delay(0, 5);
        Due.is("a DELAY that was told", nets.count(2), 2);
        nets.delay(0, 5);
        Due.is("the same one, too", nets.count(2), 3);
        nets.term(9, 8);
        Due.is("a TERM that came", nets.count(2), 4);
        nets.off(0);
        Due.is("a TERM that went", nets.count(2), 5);
        Given.row(nets, 0, 1, 3, 3, 0, 1, 4, 4);
        Due.is("sheet() and put() are none", nets.count(2), 5);
        nets.film(1, 1, 9);
        Due.is("film() is none", nets.count(2), 5);
        nets.undo();
        Due.is("the TERM is there again", nets.termOf(0, 1), 8);
        nets.undo();
        Due.is("it is away again", nets.count(1), 0);
        nets.undo();
        Due.is("DELAY, the same one", nets.gate(0, 3), 5);
        nets.undo();
        Due.is("DELAY, the one ahead", nets.gate(0, 3), 4);
        Due.is("the GATE goes", nets.undo() + nets.count(0), 0);
        Due.is("load()", nets.load(0, 1, 0, 3), 2);
        Due.is("by load() each one that came", nets.count(2), 2);
        nets.undo();
        Due.is("the last of them goes alone", nets.count(1), 1);
        Due.is("the first stays", nets.termOf(0, 1), 3);

        nets = new GlitchNets();
        nets.sheet(0, 0, 16);
        Due.is("eight by load()", nets.load(0, 0, 0, 8), 8);
        Due.is("six can be UNDONE", nets.count(2), 6);

        Due.by("what a DEED changed is as ahead of it then");
        for (int place = 0; place < 8; place++) {
            nets = eightUnlike();
            nets.off(place);
            nets.undo();
            asEightUnlike("behind off(" + place + ")", nets);
        }
        nets = eightUnlike();
        int[] places = {0, 7, 3, 1, 5, 2, 0, 4, 1};
        for (int i = 0; i < places.length - 1; i++) {
            nets.off(places[i]);
            nets.undo();
            nets.off(places[i]);
            nets.off(places[i + 1] % 7);
            nets.undo();
            nets.undo();
        }
        asEightUnlike("behind off(), twice each", nets);
        for (int i = 0; i < 6; i++) {
            nets.off(places[i] % (8 - i));
        }
        Due.is("two are left", nets.count(1), 2);
        for (int i = 0; i < 6; i++) {
            Due.is("how many still", nets.undo(), 5 - i);
        }
        asEightUnlike("behind six off()", nets);
        sixOfNine();
    }

    private static GlitchNets eightUnlike() {
        return Given.cover(8, 0, 9, 1, 10, 2, 11, 3, 12, 4, 13, 5, 14, 6, 15, 7);
    }

    private static void asEightUnlike(String what, GlitchNets nets) {
        Due.is(what + ": eight", nets.count(1), 8);
        for (int place = 0; place < 8; place++) {
            Due.is(what + ": CARES at " + place, nets.termOf(place, 0), 8 + place);
            Due.is(what + ": WANTS at " + place, nets.termOf(place, 1), place);
        }
    }

    /** Nine deeds of unlike kinds, at unlike places: of the latest six each one is undone as it was done. */
    private static void sixOfNine() {
        GlitchNets nets = Given.net("not a 1", "not b 2", "not c 3");
        Given.addTerms(nets, 1, 1, 6, 4, 12, 0);
        nets.delay(2, 9);
        nets.off(1);
        nets.delay(0, 8);
        nets.off(1);
        Given.text(nets, "xor 1 2 7");
        nets.term(9, 8);
        Due.is("the TERM goes", nets.undo(), 5);
        Due.is("TERMS", nets.count(1), 1);
        Due.is("the GATE goes", nets.undo(), 4);
        Due.is("GATES", nets.count(0), 3);
        Due.is("the third TERM comes again", nets.undo(), 3);
        Due.is("it", 100 * nets.termOf(1, 0) + nets.termOf(1, 1), 1200);
        Due.is("DELAY of GATE 0", nets.undo(), 2);
        Due.is("it", nets.gate(0, 3), 1);
        Due.is("DELAY of GATE 2 is still", nets.gate(2, 3), 9);
        Due.is("the second TERM comes again", nets.undo(), 1);
        Due.is("it", 100 * nets.termOf(1, 0) + nets.termOf(1, 1), 604);
        Due.is("behind it", 100 * nets.termOf(2, 0) + nets.termOf(2, 1), 1200);
        Due.is("DELAY of GATE 2", nets.undo(), 0);
        Due.is("it", nets.gate(2, 3), 3);
        Due.is("DELAY of GATE 1 is as it came", nets.gate(1, 3), 2);
        Due.is("no more", nets.undo(), STATE);
        Due.is("three TERMS", nets.count(1), 3);
    }

    private static void endOfDeeds() {
        Due.by("drop() and back() that aren't refused: there are no DEEDS any more (image() leaves them).");
        GlitchNets nets = Given.cover(1, 1, 2, 2);
        Due.is("drop() is refused", nets.drop(), STATE);
        Due.is("back() is refused", nets.back(), STATE);
        Due.is("DEEDS stay", nets.count(2), 2);
        Given.text(nets, "not a 1");
        nets.image();
        Due.is("image() leaves them", nets.count(2), 3);
        Due.is("they can be UNDONE", nets.undo(), 2);
        nets.image();
        Given.text(nets, "not a 1");
        nets.drop();
        Due.is("none behind drop()", nets.count(2), 0);
        Due.is("none can be UNDONE behind drop()", nets.undo(), STATE);
        nets.term(4, 4);
        nets.back();
        Due.is("none behind back()", nets.count(2), 0);
        Due.is("none can be UNDONE behind back()", nets.undo(), STATE);
        Due.is("two TERMS", nets.count(1), 2);
        nets.off(0);
        Due.is("new ones can", nets.undo(), 0);
    }

    private static void images() {
        Due.by("AN IMAGE keeps GATES, THE COVER.");
        GlitchNets nets = new GlitchNets();
        Due.is("of none", nets.image(), 0);
        Given.text(nets, "not a 1");
        nets.term(1, 1);
        Due.is("back to none", nets.back(), 0);
        Due.is("no TERMS", nets.count(1), 0);
        nets = Given.twelve();
        Given.addTerms(nets, 15, 0, 15, 1, 15, 2, 15, 3, 15, 4, 15, 5, 15, 6, 15, 7);
        Due.is("of all twelve", nets.image(), 12);
        for (int i = 0; i < 8; i++) {
            nets.off(0);
        }
        for (int i = 0; i < 12; i++) {
            nets.drop();
        }
        Given.text(nets, "nand b c 2");
        nets.term(8, 8);
        Due.is("back to twelve", nets.back(), 12);
        Due.is("GATE 0 is NOT", nets.gate(0, 0), 5);
        Due.is("GATE 0, DELAY", nets.gate(0, 3), 9);
        for (int gate = 1; gate < 12; gate++) {
            Due.is("KIND", nets.gate(gate, 0), 4);
            Due.is("FIRST", nets.gate(gate, 1), gate - 1);
            Due.is("SECOND", nets.gate(gate, 2), -4);
            Due.is("DELAY", nets.gate(gate, 3), 9);
        }
        Due.is("eight TERMS", nets.count(1), 8);
        for (int place = 0; place < 8; place++) {
            Due.is("CARES", nets.termOf(place, 0), 15);
            Due.is("WANTS", nets.termOf(place, 1), place);
        }
        nets.delay(0, 2);
        nets.off(7);
        Due.is("THE IMAGE is as it was", nets.back(), 12);
        Due.is("its DELAY", nets.gate(0, 3), 9);
        Due.is("its TERMS", nets.count(1), 8);
    }

    private static void sheets() {
        Due.by("SHEETS 0 .. 3 are rows of numbers, or missing (as all are at first): of sort 0 bytes, 1 ints.");
        GlitchNets nets = new GlitchNets();
        for (int sheet = 0; sheet <= 3; sheet++) {
            Due.is("missing at first, " + sheet, nets.put(sheet, 0, 0), -11);
        }
        for (int sheet = 0; sheet <= 3; sheet++) {
            nets.sheet(sheet, sheet % 2, sheet + 1);
        }
        for (int sheet = 0; sheet <= 3; sheet++) {
            Due.is("its last", nets.put(sheet, sheet, 0), 1);
            Due.is("behind it", nets.put(sheet, sheet + 1, 0), -12);
            Due.is("of its sort", nets.load(sheet, sheet % 2, 0, 0), 0);
            Due.is("of no other", nets.load(sheet, 1 - sheet % 2, 0, 0), -13);
        }
        Due.is("no sheet -1", nets.put(-1, 0, 0), BAD);
        Due.is("no sheet 4", nets.put(4, 0, 0), BAD);
    }
}
