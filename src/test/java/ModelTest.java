import java.util.Random;

/** Runs of calls, the same each time, on GlitchNets and on PlainModel: each answer of the one is due by the other. */
public final class ModelTest {
    private static final int RUNS = 400;
    private static final int CALLS = 512;
    private static final int[] WILD = {
        Integer.MIN_VALUE, Integer.MIN_VALUE + 1, -17, -5, -4, -3, -2, -1, 0, 1, 2, 3, 4, 5, 6, 8, 9, 10, 12, 15, 16,
        30, 39, 40, 41, 108, 109, 255, 256, 65535, Integer.MAX_VALUE - 1, Integer.MAX_VALUE
    };

    private final GlitchNets nets = new GlitchNets();
    private final PlainModel model = new PlainModel();
    private final Random random;
    private final int run;
    private final int wildness;
    private final StringBuilder calls = new StringBuilder();
    private int called = 0;

    private ModelTest(int run) {
        this.run = run;
        this.random = new Random(run);
        this.wildness = run % 4 == 0 ? 5 : 60;
    }

    public static void main(String[] args) {
        for (int run = 0; run < RUNS && Due.wrong() == 0; run++) {
            ModelTest test = new ModelTest(run);
            while (test.called < CALLS && Due.wrong() == 0) {
                test.step();
            }
            if (Due.wrong() != 0) {
                System.out.println("run " + run + ":" + test.calls);
            }
        }
        Due.end("ModelTest");
    }

    private int from(int least, int most) {
        if (random.nextInt(wildness) == 0) {
            return WILD[random.nextInt(WILD.length)];
        }
        return least + random.nextInt(most - least + 1);
    }

    private int aGate() {
        return from(0, Math.max(0, model.count(0) - 1));
    }

    private int aTerm() {
        return from(0, Math.max(0, model.count(1) - 1));
    }

    private void due(String call, int[] args, long got, long want) {
        called++;
        StringBuilder told = new StringBuilder(call).append('(');
        for (int i = 0; i < args.length; i++) {
            told.append(i == 0 ? "" : ", ").append(args[i]);
        }
        told.append(')');
        calls.append(' ').append(told);
        Due.is("run " + run + ", call " + called + ", " + told, got, want);
    }

    private void feed(int... a) {
        due("feed", a, nets.feed(a[0], a[1], a[2], a[3], a[4], a[5]), model.feed(a[0], a[1], a[2], a[3], a[4], a[5]));
    }

    private void feedAll(String text) {
        for (int i = 0; i < text.length(); i += 5) {
            int[] a = new int[6];
            a[0] = Math.min(5, text.length() - i);
            for (int j = 0; j < a[0]; j++) {
                a[1 + j] = text.charAt(i + j);
            }
            feed(a);
        }
    }

    private String blanks(int least) {
        return " ".repeat(least + (random.nextInt(6) == 0 ? random.nextInt(3) : 0));
    }

    private String source() {
        int gates = model.count(0);
        if (gates == 0 || random.nextInt(3) == 0) {
            return String.valueOf((char) ('a' + from(0, 3) % 26));
        }
        int gate = Math.floorMod(from(Math.max(0, gates - 4), gates - 1), 120);
        return (gate < 10 && random.nextInt(8) == 0 ? "0" : "") + gate;
    }

    private String gateText() {
        String[] words = {"and", "nand", "or", "nor", "xor", "not"};
        int kind = random.nextInt(6);
        StringBuilder text = new StringBuilder(blanks(0)).append(words[kind]);
        for (int i = 0; i < (kind == 5 ? 1 : 2); i++) {
            text.append(blanks(1)).append(source());
        }
        text.append(blanks(1)).append(Math.abs(from(1, 9) % 1000)).append(blanks(0));
        if (random.nextInt(12) == 0) {
            char[] odd = {' ', 'a', 'e', 'z', '`', '{', '0', '1', '9', '/', ':', '!', 0, 255, 'A', 'n', 'd'};
            int at = random.nextInt(text.length());
            if (random.nextBoolean()) {
                text.setCharAt(at, odd[random.nextInt(odd.length)]);
            } else {
                text.insert(at, odd[random.nextInt(odd.length)]);
            }
        }
        if (random.nextInt(16) == 0) {
            text.setLength(random.nextInt(text.length()));
        }
        return text.toString();
    }

    private void step() {
        if (called >= CALLS - 8) {
            due("count", new int[] {0}, nets.count(0), model.count(0));
            return;
        }
        switch (random.nextInt(8)) {
            case 0: stepText(); break;
            case 1: stepGates(); break;
            case 2: stepWaves(); break;
            case 3: stepTerms(); break;
            case 4: stepCovers(); break;
            case 5: stepTold(); break;
            case 6: stepDeeds(); break;
            default: stepSheets(); break;
        }
    }

    private void stepText() {
        if (random.nextInt(10) == 0) {
            feed(from(1, 5), from(0, 255), from(0, 255), from(0, 255), from(0, 255), from(0, 255));
        }
        if (random.nextInt(4) != 0 && model.count(3) > 0) {
            due("text", new int[0], nets.text(), model.text());
        }
        feedAll(gateText());
        if (random.nextInt(10) != 0) {
            due("text", new int[0], nets.text(), model.text());
        }
    }

    private void stepGates() {
        int[] a = {aGate(), from(0, 5)};
        switch (random.nextInt(12)) {
            case 0: case 1:
                int v = from(1, 9);
                due("delay", new int[] {a[0], v}, nets.delay(a[0], v), model.delay(a[0], v));
                break;
            case 2:
                if (random.nextInt(4) == 0) {
                    due("drop", new int[0], nets.drop(), model.drop());
                }
                break;
            case 3: case 4: case 5: case 6: case 7:
                due("gate", a, nets.gate(a[0], a[1]), model.gate(a[0], a[1]));
                break;
            case 8: case 9:
                due("taken", a, nets.taken(a[0], a[1]), model.taken(a[0], a[1]));
                break;
            default:
                int k = from(0, 5);
                due("path", new int[] {k}, nets.path(k), model.path(k));
                break;
        }
    }

    private void stepWaves() {
        int x = from(0, 15);
        int y = random.nextBoolean() ? x ^ 1 << random.nextInt(4) : from(0, 15);
        int what = from(0, 2);
        switch (random.nextInt(7)) {
            case 0:
                int g = aGate();
                due("tells", new int[] {g, x}, nets.tells(g, x), model.tells(g, x));
                break;
            case 1:
                due("table", new int[0], nets.table(), model.table());
                break;
            case 2:
                int time = random.nextBoolean() ? from(0, 30) : from(0, 108);
                due("wave", new int[] {x, y, time}, nets.wave(x, y, time), model.wave(x, y, time));
                break;
            case 3: case 4:
                due("change", new int[] {x, y, what}, nets.change(x, y, what), model.change(x, y, what));
                break;
            case 5:
                due("worst", new int[] {what}, nets.worst(what), model.worst(what));
                break;
            default:
                due("glitches", new int[] {what}, nets.glitches(what), model.glitches(what));
                break;
        }
    }

    private void stepTerms() {
        if (random.nextInt(4) == 0) {
            int place = aTerm();
            due("off", new int[] {place}, nets.off(place), model.off(place));
            return;
        }
        int cares = random.nextInt(3) == 0 ? from(0, 15) : 15 & ~(1 << random.nextInt(4));
        int wants = random.nextInt(20) == 0 ? from(0, 15) : random.nextInt(16) & cares;
        due("term", new int[] {cares, wants}, nets.term(cares, wants), model.term(cares, wants));
    }

    private void stepCovers() {
        int what = from(0, 1);
        int k = from(-1, 6);
        switch (random.nextInt(5)) {
            case 0:
                int[] a = {aTerm(), from(0, 2)};
                due("termOf", a, nets.termOf(a[0], a[1]), model.termOf(a[0], a[1]));
                break;
            case 1:
                due("covered", new int[] {what}, nets.covered(what), model.covered(what));
                break;
            case 2:
                due("open", new int[] {k}, nets.open(k), model.open(k));
                break;
            case 3:
                due("prime", new int[] {k}, nets.prime(k), model.prime(k));
                break;
            default:
                due("added", new int[] {what}, nets.added(what), model.added(what));
                break;
        }
    }

    private void stepTold() {
        int sheet = from(0, 3);
        int x = random.nextInt(16);
        int xy = random.nextInt(20) == 0 ? from(0, 255) : 16 * x + (x ^ 1 << random.nextInt(4));
        int n = from(0, 40);
        due("film", new int[] {sheet, xy, n}, nets.film(sheet, xy, n), model.film(sheet, xy, n));
        if (random.nextInt(3) == 0) {
            int[] a = {sheet, from(0, 39), from(0, 1)};
            due("put", a, nets.put(a[0], a[1], a[2]), model.put(a[0], a[1], a[2]));
        }
        int gate = aGate();
        for (int what = 0; what < 3; what++) {
            int w = random.nextInt(20) == 0 ? from(0, 2) : what;
            due("told", new int[] {sheet, xy, gate, w}, nets.told(sheet, xy, gate, w), model.told(sheet, xy, gate, w));
        }
    }

    private void stepDeeds() {
        switch (random.nextInt(12)) {
            case 0: case 1: case 2:
                due("undo", new int[0], nets.undo(), model.undo());
                break;
            case 3:
                due("image", new int[0], nets.image(), model.image());
                break;
            case 4:
                if (random.nextInt(3) == 0) {
                    due("back", new int[0], nets.back(), model.back());
                }
                break;
            default:
                int what = from(0, 3);
                due("count", new int[] {what}, nets.count(what), model.count(what));
                break;
        }
    }

    private void stepSheets() {
        int s = from(0, 3);
        int o = from(0, 3);
        int i = from(0, 12);
        switch (random.nextInt(8)) {
            case 0: case 1:
                int[] a = {s, from(-1, 1), random.nextInt(4) == 0 ? from(0, 40) : from(4, 16)};
                due("sheet", a, nets.sheet(a[0], a[1], a[2]), model.sheet(a[0], a[1], a[2]));
                break;
            case 2: case 3: case 4:
                int v = from(0, 16);
                due("put", new int[] {s, i, v}, nets.put(s, i, v), model.put(s, i, v));
                break;
            case 5: case 6:
                int[] c = {s, i, o, from(0, 12), from(0, 8)};
                due("copy", c, nets.copy(c[0], c[1], c[2], c[3], c[4]), model.copy(c[0], c[1], c[2], c[3], c[4]));
                break;
            default:
                int[] l = {s, from(0, 1), i, from(0, 8)};
                due("load", l, nets.load(l[0], l[1], l[2], l[3]), model.load(l[0], l[1], l[2], l[3]));
                break;
        }
    }
}
