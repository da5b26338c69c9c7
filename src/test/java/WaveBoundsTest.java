/** The bounds in the second block of "Terms": what gates tell, changes, paths. The last that is taken, the first that isn't; the empty, the full. */
public final class WaveBoundsTest {
    private static final int NONE = -1, BAD = -2;

    private WaveBoundsTest() {
    }

    public static void main(String[] args) {
        steadyGates();
        changes();
        times();
        flips();
        worst();
        paths();
        tables();
        Due.end("WaveBoundsTest");
    }

    private static void steadyGates() {
        Due.by("AS INPUTS STAND a GATE tells 0 or 1.");
        GlitchNets nets = Given.hazard();
        for (int inputs = 0; inputs <= 15; inputs++) {
            boolean a = (inputs & 1) != 0;
            boolean b = (inputs & 2) != 0;
            boolean c = (inputs & 4) != 0;
            boolean[] due = {!b, a && b, !b && c, a && b || !b && c};
            for (int gate = 0; gate < 4; gate++) {
                Due.is("GATE " + gate + " at " + inputs, nets.tells(gate, inputs), due[gate] ? 1 : 0);
            }
        }
    }

    private static void changes() {
        Due.by("A CHANGE from INPUTS x to y (0 .. 15 each, unlike)");
        GlitchNets nets = Given.net("or a b 1", "or 0 c 1", "or 1 d 1");
        nets.sheet(0, 0, 1);
        for (int x = 0; x <= 15; x++) {
            Due.is("wave: the same, " + x, nets.wave(x, x, 0), BAD);
            Due.is("change: the same, " + x, nets.change(x, x, 0), BAD);
            Due.is("told: the same, " + x, nets.told(0, 17 * x, 0, 0), BAD);
            Due.is("film: the same, " + x, nets.film(0, 17 * x, 1), BAD);
        }
        Due.is("0 to 15 begins as 0", nets.wave(0, 15, 0), 0);
        Due.is("0 to 15 ends as 15", nets.wave(0, 15, 108), 1);
        Due.is("15 to 0 begins as 15", nets.wave(15, 0, 0), 1);
        Due.is("15 to 0 ends as 0", nets.wave(15, 0, 108), 0);
        Due.is("0 to 15 flips", nets.change(0, 15, 0), 1);
        Due.is("15 to 0 flips", nets.change(15, 0, 0), 1);
        Due.is("15 to 14 does not", nets.change(15, 14, 0), 0);
        for (int wrong : new int[] {-1, 16}) {
            for (int right : new int[] {0, 15}) {
                Due.is("wave: x " + wrong, nets.wave(wrong, right, 0), BAD);
                Due.is("wave: y " + wrong, nets.wave(right, wrong, 0), BAD);
                Due.is("change: x " + wrong, nets.change(wrong, right, 0), BAD);
                Due.is("change: y " + wrong, nets.change(right, wrong, 0), BAD);
            }
        }
    }

    private static void times() {
        Due.by("a GATE at time t (0 and more) tells by what its sources tell at t less its DELAY");
        for (int delay = 1; delay <= 9; delay++) {
            GlitchNets nets = Given.net("not a " + delay);
            for (int time = 0; time <= 20; time++) {
                Due.is("DELAY " + delay + " at " + time, nets.wave(0, 1, time), time < delay ? 1 : 0);
                Due.is("the other way, DELAY " + delay + " at " + time, nets.wave(1, 0, time), time < delay ? 0 : 1);
            }
        }
        GlitchNets nets = Given.net("and a a 3", "xor 0 a 2");
        for (int time = 0; time <= 10; time++) {
            Due.is("a GATE's DELAY behind another's, at " + time, nets.wave(0, 1, time), time >= 2 && time < 5 ? 1 : 0);
        }

        Due.by("for all times below 0 INPUTS are x and GATES tell so; from time 0 on INPUTS are y");
        nets = Given.net("xor a b 1", "xor c d 1", "xor 0 1 1");
        for (int x = 0; x <= 15; x++) {
            int y = 15 - x;
            Due.is("at 0 as of " + x, nets.wave(x, y, 0), Integer.bitCount(x) % 2);
            Due.is("at 1 as of " + x, nets.wave(x, y, 1), Integer.bitCount(x) % 2);
            Due.is("at 2 as of y", nets.wave(x, x ^ 1, 2), Integer.bitCount(x ^ 1) % 2);
        }

        Due.by("THE WAVE: THE OUTPUT at times 0, 1, .. 108 (behind 108 nothing changes any more).");
        nets = Given.twelve();
        Due.is("time -1", nets.wave(0, 1, -1), BAD);
        Due.is("time 0", nets.wave(0, 1, 0), 1);
        Due.is("time 107", nets.wave(0, 1, 107), 1);
        Due.is("time 108", nets.wave(0, 1, 108), 0);
        Due.is("time 109", nets.wave(0, 1, 109), BAD);
        nets.delay(0, 8);
        Due.is("one less: time 106", nets.wave(0, 1, 106), 1);
        Due.is("one less: time 107", nets.wave(0, 1, 107), 0);
        for (int at = 1; at <= 108; at++) {
            flipsJustAt(at);
        }
    }

    private static void flipsJustAt(int at) {
        GlitchNets nets = Given.net("and a a " + Math.min(at, 9));
        for (int left = at - 9; left > 0; left -= 9) {
            int last = nets.count(0) - 1;
            Given.text(nets, "and " + last + " " + last + " " + Math.min(left, 9));
        }
        Due.is("ahead of " + at, nets.wave(0, 1, at - 1), 0);
        Due.is("at " + at, nets.wave(0, 1, at), 1);
        Due.is("ahead of " + at + ", the other way", nets.wave(1, 0, at - 1), 1);
        Due.is("at " + at + ", the other way", nets.wave(1, 0, at), 0);
        Due.is("behind " + at, nets.wave(0, 1, Math.min(at + 1, 108)), 1);
        Due.is("one FLIP, at " + at, nets.change(0, 1, 0), 1);
        Due.is("one FLIP, at " + at + ", the other way", nets.change(1, 0, 0), 1);
        Due.is("SETTLES at " + at, nets.change(0, 1, 2), at);
        Due.is("SETTLES at " + at + ", the other way", nets.change(1, 0, 2), at);
    }

    /** Each xor with a makes a flip more, since a itself flips at a time at which nothing else does. */
    private static GlitchNets flipping(int flips) {
        GlitchNets nets = Given.net("and a a 1");
        for (int gate = 1; gate < flips; gate++) {
            Given.text(nets, "xor " + (gate - 1) + " a 1");
        }
        return nets;
    }

    private static void flips() {
        GlitchNets still = Given.net("xor a a 1");
        Due.by("FLIPS: at how many of these times it is otherwise than at the time ahead (ahead of 0: as it was).");
        Due.is("none, of 0", still.change(0, 1, 0), 0);
        Due.is("none, of 1", Given.net("or a b 1").change(2, 3, 0), 0);
        for (int flips = 1; flips <= 12; flips++) {
            Due.is("flips", flipping(flips).change(0, 1, 0), flips);
            Due.is("flips the other way", flipping(flips).change(1, 0, 0), flips);
        }
        Due.is("one at the least time", Given.net("not a 1").change(0, 1, 0), 1);
        Due.is("one at the greatest time", Given.twelve().change(0, 1, 0), 1);

        Due.by("GLITCH: 1 if it ends as it began and there are FLIPS; 2 if it ends otherwise and FLIPS are more than 1; else 0.");
        Due.is("none, of 0", still.change(0, 1, 1), 0);
        Due.is("none, of 1", Given.net("or a b 1").change(2, 3, 1), 0);
        int[] due = {0, 1, 2, 1, 2, 1, 2, 1, 2, 1, 2, 1};
        for (int flips = 1; flips <= 12; flips++) {
            Due.is("by flips " + flips, flipping(flips).change(0, 1, 1), due[flips - 1]);
            Due.is("the other way by flips " + flips, flipping(flips).change(1, 0, 1), due[flips - 1]);
        }
        Due.is("its end is at 108", Given.twelve().change(0, 1, 1), 0);

        Due.by("SETTLES: the time of the last FLIP; NONE.");
        Due.is("none", still.change(0, 1, 2), NONE);
        Due.is("none, of 1", Given.net("or a b 1").change(2, 3, 2), NONE);
        Due.is("the least", Given.net("not a 1").change(0, 1, 2), 1);
        Due.is("the greatest", Given.twelve().change(0, 1, 2), 108);
        for (int flips = 1; flips <= 12; flips++) {
            Due.is("the last of flips " + flips, flipping(flips).change(0, 1, 2), flips);
        }
    }

    private static void worstIs(String what, GlitchNets nets, int x, int y, int flips) {
        Due.is(what + ": x", nets.worst(0), x);
        Due.is(what + ": y", nets.worst(1), y);
        Due.is(what + ": FLIPS", nets.worst(2), flips);
    }

    private static void worst() {
        Due.by("WORST: of all CHANGES in which just one INPUT is otherwise that of most FLIPS, of like ones the least x, then the least y.");
        worstIs("none flips: the first of all", Given.net("xor a a 1"), 0, 1, 0);
        worstIs("none flips, of 1: the first of all", Given.net("xor a a 1", "not 0 1"), 0, 1, 0);
        worstIs("the last of all", Given.net("not a 1", "nor a 0 1", "and 1 b 1", "and 2 c 1", "and 3 d 1"), 15, 14, 2);
        worstIs("two INPUTS at once do not count", Given.net("and a a 1", "xor 0 b 1"), 0, 1, 1);
        worstIs("of like ones the least x", Given.net("and a b 1", "and 0 c 1", "and 1 d 1"), 7, 15, 1);
        worstIs("of like ones the least y", Given.net("and c d 1"), 4, 12, 1);
        worstIs("of y below x and above it", Given.net("nand a b 1"), 1, 3, 1);
        worstIs("of y below x alone", Given.net("not b 1", "nor b 0 1"), 2, 0, 2);
        worstIs("of y 8", Given.net("and d d 1"), 0, 8, 1);
        worstIs("more FLIPS ahead of a lesser x", flipping(12), 0, 1, 12);
        worstIs("most FLIPS at a greater x", Given.net("not a 1", "and a 0 1", "and 1 d 1", "or 2 b 1"), 8, 9, 2);
    }

    private static void paths() {
        Due.by("PATH of a GATE: the greatest sum of DELAYS along GATES, each a source of the next one, up to it (its own, too)");
        Due.is("the least", Given.net("not a 1").gate(0, 4), 1);
        Due.is("of INPUTS alone", Given.net("or a d 9").gate(0, 4), 9);
        Due.is("the greatest", Given.twelve().gate(11, 4), 108);
        GlitchNets nets = Given.net("not a 9", "not b 1", "and 0 1 2", "and 1 0 3", "and 1 b 4", "and c 1 5");
        int[] due = {9, 1, 11, 12, 5, 6};
        for (int gate = 0; gate < due.length; gate++) {
            Due.is("of GATE " + gate, nets.gate(gate, 4), due[gate]);
        }
        Due.is("more GATES of less DELAY", Given.net("not a 1", "not 0 1", "not b 3", "or 1 2 1").gate(3, 4), 4);

        Due.by("the source that is a GATE of greatest PATH, of like ones FIRST; till none is.");
        Due.is("FIRST of like ones", Given.net("not a 2", "not b 2", "or 1 0 1").path(1), 1);
        Due.is("SECOND by one more", Given.net("not a 2", "not b 3", "or 0 1 1").path(1), 1);
        Due.is("FIRST by one more", Given.net("not a 3", "not b 2", "or 0 1 1").path(1), 0);
        Due.is("both the same", Given.net("not a 3", "or 0 0 1").path(1), 0);
        Due.is("a GATE beside an INPUT", Given.net("not a 1", "or d 0 9").path(1), 0);
        Due.is("no GATE is", Given.net("not a 1", "or d c 9").path(1), NONE);
        Due.is("by PATH, not by DELAY", Given.net("not a 3", "not 0 3", "not b 5", "or 2 1 1").path(1), 1);
    }

    private static void tables() {
        Due.by("THE TABLE: for each of INPUTS 0 .. 15 what THE OUTPUT tells as they stand (16 bits, the lowest for 0).");
        Due.is("of none", Given.net("xor b b 1").table(), 0);
        Due.is("of all", Given.net("xor b b 1", "not 0 1").table(), 65535);
        Due.is("of 0 alone", Given.net("or a b 1", "or 0 c 1", "nor 1 d 1").table(), 1);
        Due.is("of 15 alone", Given.net("and a b 1", "and 0 c 1", "and 1 d 1").table(), 1 << 15);
        Due.is("of all but 15", Given.net("and a b 1", "and 0 c 1", "nand 1 d 1").table(), 32767);
        Due.is("of all but 0", Given.net("or a b 1", "or 0 c 1", "or 1 d 1").table(), 65534);
    }
}
