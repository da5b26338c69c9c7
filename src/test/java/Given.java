/** What tests begin with: texts fed to the tape, nets, covers, rows. */
final class Given {
    static final int LEAST = Integer.MIN_VALUE, MOST = Integer.MAX_VALUE;

    private Given() {
    }

    static void feed(GlitchNets nets, String text) {
        for (int i = 0; i < text.length(); i += 5) {
            int n = Math.min(5, text.length() - i);
            int[] v = new int[5];
            for (int j = 0; j < n; j++) {
                v[j] = text.charAt(i + j);
            }
            nets.feed(n, v[0], v[1], v[2], v[3], v[4]);
        }
    }

    static int text(GlitchNets nets, String text) {
        feed(nets, text);
        return nets.text();
    }

    static GlitchNets net(String... texts) {
        GlitchNets nets = new GlitchNets();
        for (String text : texts) {
            Due.holds("gate comes by " + text, text(nets, text) >= 0);
        }
        return nets;
    }

    /** a b + not b c: a glitch while b goes. */
    static GlitchNets hazard() {
        return net("not b 3", "and a b 2", "and 0 c 2", "or 1 2 1");
    }

    static GlitchNets twelve() {
        GlitchNets nets = net("not a 9");
        for (int i = 1; i < 12; i++) {
            Due.is("gate " + i, text(nets, "xor " + (i - 1) + " d 9"), i);
        }
        return nets;
    }

    static GlitchNets cover(int... caresAndWants) {
        GlitchNets nets = new GlitchNets();
        addTerms(nets, caresAndWants);
        return nets;
    }

    static void addTerms(GlitchNets nets, int... caresAndWants) {
        for (int i = 0; i < caresAndWants.length; i += 2) {
            nets.term(caresAndWants[i], caresAndWants[i + 1]);
        }
    }

    static void row(GlitchNets nets, int sheet, int sort, int... items) {
        nets.sheet(sheet, sort, items.length);
        for (int i = 0; i < items.length; i++) {
            nets.put(sheet, i, items[i]);
        }
    }
}
