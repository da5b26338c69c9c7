import java.util.Arrays;

/** The bounds in the third block of "Terms" as far as covers go. The last that is taken, the first that isn't; the empty, the full. */
public final class CoverBoundsTest {
    private static final int NONE = -1, BAD = -2, FULL = -4;

    private CoverBoundsTest() {
    }

    public static void main(String[] args) {
        terms();
        covers();
        openPairs();
        primes();
        added();
        Due.end("CoverBoundsTest");
    }

    private static void terms() {
        Due.by("A TERM has CARES (0 .. 15: which INPUTS) and WANTS (bits within CARES)");
        for (int cares = -1; cares <= 16; cares++) {
            GlitchNets nets = new GlitchNets();
            for (int wants = -1; wants <= 16; wants++) {
                boolean stands = cares >= 0 && cares <= 15 && wants >= 0 && (wants | cares) == cares;
                Due.is("term(" + cares + ", " + wants + ")", nets.term(cares, wants), stands ? 0 : BAD);
                Due.is("how many", nets.count(1), stands ? 1 : 0);
                nets.off(0);
            }
        }

        Due.by("it holds INPUTS x, if x and WANTS are alike in all CARES.");
        for (int cares = 0; cares <= 15; cares++) {
            for (int wants = 0; wants <= cares; wants++) {
                if ((wants | cares) != cares) {
                    continue;
                }
                int held = 0;
                for (int x = 0; x <= 15; x++) {
                    held |= (x & cares) == wants ? 1 << x : 0;
                }
                Due.is("term(" + cares + ", " + wants + ")", Given.cover(cares, wants).termOf(0, 2), held);
            }
        }
    }

    private static void covers() {
        Due.by("THE COVER: TERMS as they come (8 at most, also two alike).");
        GlitchNets nets = new GlitchNets();
        for (int place = 0; place < 8; place++) {
            Due.is("the same once more", nets.term(5, 1), place);
        }
        Due.is("a ninth, the same", nets.term(5, 1), FULL);
        Due.is("a ninth, another", nets.term(0, 0), FULL);
        Due.is("eight", nets.count(1), 8);
        nets.off(0);
        Due.is("room for one behind off()", nets.term(9, 8), 7);
        Due.is("for just one", nets.term(9, 8), FULL);
        nets.undo();
        Due.is("room for one behind undo()", nets.term(6, 6), 7);
        Due.is("for just one", nets.term(6, 6), FULL);
        Due.is("the last", nets.termOf(7, 1), 6);
        Due.is("the others", nets.termOf(6, 1), 1);

        Due.by("COVERED: what one TERM at least holds (16 bits).");
        Due.is("of none", new GlitchNets().covered(0), 0);
        Due.is("of 0", Given.cover(15, 0).covered(0), 1);
        Due.is("of 15", Given.cover(15, 15).covered(0), 1 << 15);
        Due.is("of all by one", Given.cover(0, 0).covered(0), 65535);
        Due.is("of all by two", Given.cover(4, 4, 4, 0).covered(0), 65535);
        Due.is("of all but one", Given.cover(1, 1, 2, 2, 4, 4, 8, 8).covered(0), 65534);
        Due.is("what two hold counts once", Given.cover(3, 3, 3, 3, 6, 6).covered(0), 0xC8C8);
    }

    private static void openPairs() {
        Due.by("An OPEN pair: INPUTS x, and x with one INPUT that x lacks more, both COVERED, and no TERM holds both");
        for (int x = 0; x <= 15; x++) {
            for (int input = 0; input <= 3; input++) {
                int more = x | 1 << input;
                if (more == x) {
                    continue;
                }
                String pair = "pair of " + x + ", INPUT " + input;
                GlitchNets nets = Given.cover(15, more, 15, x);
                Due.is(pair + ": one", nets.open(NONE), 1);
                Due.is(pair + ": it", nets.open(0), 16 * x + input);
                Due.is(pair + ": no other", nets.open(1), -12);
                nets.term(15 - (1 << input), x);
                Due.is(pair + ": a TERM holds both", nets.open(NONE), 0);
                Due.is(pair + ": the first is COVERED alone", Given.cover(15, x).open(NONE), 0);
                Due.is(pair + ": the second is COVERED alone", Given.cover(15, more).open(NONE), 0);
            }
        }
        Due.is("two INPUTS more are no pair", Given.cover(15, 0, 15, 3).open(NONE), 0);
        Due.is("one more and one less are none", Given.cover(15, 1, 15, 2).open(NONE), 0);
        Due.is("all INPUTS more are none", Given.cover(15, 0, 15, 15).open(NONE), 0);
        Due.is("two alike make none", Given.cover(15, 5, 15, 5).open(NONE), 0);

        Due.by("by x, then by that INPUT (a first).");
        GlitchNets nets = new GlitchNets();
        for (int wants = 7; wants >= 0; wants--) {
            nets.term(7, wants);
        }
        Due.is("the pairs of all 16", nets.open(NONE), 24);
        int k = 0;
        for (int x = 0; x <= 15; x++) {
            for (int input = 0; input <= 2; input++) {
                if ((x >> input) % 2 == 0) {
                    Due.is("open(" + k + ")", nets.open(k), 16 * x + input);
                    k++;
                }
            }
        }
        Due.is("behind the last", nets.open(k), -12);
    }

    private static void primesAre(String what, GlitchNets nets, int... due) {
        Due.is(what + ": how many", nets.prime(NONE), due.length);
        for (int k = 0; k < due.length; k++) {
            Due.is(what + ": prime(" + k + ")", nets.prime(k), due[k]);
        }
        Due.is(what + ": behind the last", nets.prime(due.length), -12);
    }

    private static void primes() {
        Due.by("PRIMES: TERMS that hold nothing that isn't COVERED, with no fewer CARES (a part of its own, WANTS as they are there) so");
        primesAre("one TERM", Given.cover(5, 4), 16 * 5 + 4);
        primesAre("two that make one", Given.cover(5, 4, 5, 5), 16 * 4 + 4);
        primesAre("two that make a third, too", Given.cover(3, 3, 6, 4), 51, 85, 100);
        primesAre("a part of another", Given.cover(5, 4, 15, 4), 16 * 5 + 4);
        primesAre("the least there is", Given.cover(15, 15), 16 * 15 + 15);
        primesAre("apart", Given.cover(15, 0, 15, 15), 16 * 15, 16 * 15 + 15);
        primesAre("all but 0", Given.cover(1, 1, 2, 2, 4, 4, 8, 8), 17, 34, 68, 136);
        primesAre("all but 15", Given.cover(1, 0, 2, 0, 4, 0, 8, 0), 16, 32, 64, 128);

        Due.by("by CARES, then by WANTS.");
        primesAre("of like CARES", Given.cover(15, 9, 15, 6, 15, 3), 16 * 15 + 3, 16 * 15 + 6, 16 * 15 + 9);
        GlitchNets many = Given.cover(7, 2, 14, 14, 15, 4, 11, 9, 7, 7, 14, 8, 13, 1, 14, 8);
        primesAre("thirteen", many, primesOf(many.covered(0)));
        Due.is("thirteen", many.prime(NONE), 13);

        Due.by("(If all 16 are COVERED, one of no CARES; if none is, none.)");
        primesAre("all by one", Given.cover(0, 0), 0);
        primesAre("all by two", Given.cover(8, 8, 8, 0), 0);
        primesAre("all by eight", Given.cover(7, 0, 7, 1, 7, 2, 7, 3, 7, 4, 7, 5, 7, 6, 7, 7), 0);
        primesAre("none", new GlitchNets());
        primesAre("none any more", coverOfNoneAnyMore());
    }

    private static GlitchNets coverOfNoneAnyMore() {
        GlitchNets nets = Given.cover(3, 1);
        nets.off(0);
        return nets;
    }

    /** By the document's words: no part of a prime's cares of its own will do. */
    private static int[] primesOf(int covered) {
        int[] found = new int[32];
        int n = 0;
        for (int cares = 0; cares <= 15; cares++) {
            for (int wants = 0; wants <= cares; wants++) {
                if ((wants | cares) != cares || !holdsOnly(cares, wants, covered)) {
                    continue;
                }
                boolean fewer = false;
                for (int part = 0; part < cares; part++) {
                    fewer |= (part | cares) == cares && holdsOnly(part, wants & part, covered);
                }
                if (!fewer) {
                    found[n] = 16 * cares + wants;
                    n++;
                }
            }
        }
        return Arrays.copyOf(found, n);
    }

    private static boolean holdsOnly(int cares, int wants, int covered) {
        for (int x = 0; x <= 15; x++) {
            if ((x & cares) == wants && (covered >> x & 1) == 0) {
                return false;
            }
        }
        return true;
    }

    private static void addedIs(String what, GlitchNets nets, long howMany, long bits) {
        Due.is(what + ": how many", nets.added(0), howMany);
        Due.is(what + ": which", nets.added(1), bits);
    }

    private static void added() {
        Due.by("ADDED: the fewest PRIMES by which, were they in THE COVER, too, no pair would be OPEN: how many");
        addedIs("no TERM", new GlitchNets(), 0, 0);
        addedIs("one TERM", Given.cover(15, 3), 0, 0);
        addedIs("no OPEN pair", Given.cover(3, 3, 6, 4, 5, 5), 0, 0);
        addedIs("all by one", Given.cover(0, 0), 0, 0);
        addedIs("the one PRIME of all", Given.cover(8, 8, 8, 0), 1, 1);
        addedIs("the second PRIME", Given.cover(3, 3, 6, 4), 1, 2);
        addedIs("each of eight", Given.cover(15, 0, 15, 1, 15, 3, 15, 7, 15, 15, 15, 14, 15, 12, 15, 8), 8, 255);
        addedIs("each of nine", Given.cover(15, 13, 13, 5, 15, 10, 13, 9, 15, 6, 13, 12, 13, 1, 7, 0), 9, 511);
        addedIs("of thirteen", Given.cover(7, 2, 14, 14, 15, 4, 11, 9, 7, 7, 14, 8, 13, 1, 14, 8), 6, 937);

        Due.by("(PRIMES are 32 at most: bits of a long.)");
        GlitchNets twelve = Given.cover(7, 4, 7, 1, 15, 14, 13, 5, 15, 11, 11, 8, 7, 7);
        Due.is("twelve", twelve.prime(NONE), 12);
        addedIs("the last of twelve, too", twelve, 7, 4008);

        Due.by("of several such sets the one whose bits (by PRIMES in order) are least.");
        addedIs("three, though lesser bits of four would do", Given.cover(14, 14, 5, 4, 14, 2, 11, 3, 11, 0, 5, 1), 3, 97);
        addedIs("four, of three such sets", Given.cover(5, 5, 11, 11, 15, 3, 6, 4, 5, 0, 11, 1), 4, 209);

        GlitchNets nets = Given.cover(5, 5, 11, 11, 15, 3, 6, 4, 5, 0, 11, 1);
        long bits = nets.added(1);
        Due.is("THE COVER has as many as ahead", nets.count(1), 6);
        for (int k = 0; k < nets.prime(NONE) && nets.count(1) < 8; k++) {
            if ((bits >> k & 1) == 1) {
                nets.term(nets.prime(k) / 16, nets.prime(k) % 16);
            }
        }
        Due.is("two of the four are left to add", nets.added(0), 2);
    }
}
