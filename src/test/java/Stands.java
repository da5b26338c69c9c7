import java.util.LinkedHashMap;
import java.util.Map;
import java.util.function.Supplier;

/** All that can be read of an object, part by part, as texts. Reading changes it, so each part takes objects of its own. */
final class Stands {
    private static final int MOST_GATES = 12, MOST_TERMS = 8, MOST_DEEDS = 6, SHEETS = 4, MOST_ITEMS = 40;

    private Stands() {
    }

    static Map<String, String> of(Supplier<GlitchNets> made) {
        Map<String, String> parts = new LinkedHashMap<>();
        parts.put("gates", gates(made.get()));
        parts.put("cover", cover(made.get()));
        parts.put("tape", tape(made.get()));
        parts.put("deeds", deeds(made));
        parts.put("image", image(made.get()));
        for (int sheet = 0; sheet < SHEETS; sheet++) {
            parts.put("sheet " + sheet, sheet(made.get(), sheet));
        }
        return parts;
    }

    private static String gates(GlitchNets nets) {
        StringBuilder told = new StringBuilder().append(nets.count(0)).append(':');
        for (int gate = 0; gate < nets.count(0); gate++) {
            for (int what = 0; what < 4; what++) {
                told.append(' ').append(nets.gate(gate, what));
            }
            told.append(';');
        }
        return told.toString();
    }

    private static String cover(GlitchNets nets) {
        StringBuilder told = new StringBuilder().append(nets.count(1)).append(':');
        for (int place = 0; place < nets.count(1); place++) {
            told.append(' ').append(nets.termOf(place, 0)).append('/').append(nets.termOf(place, 1));
        }
        return told.toString();
    }

    /** A tape that wants just a delay gets it, and a tape without room is read as it is. */
    private static String tape(GlitchNets nets) {
        if (nets.count(0) == MOST_GATES) {
            nets.drop();
        }
        int bytes = nets.count(3);
        nets.feed(1, '5', 0, 0, 0, 0);
        int answer = nets.text();
        return bytes + ", then " + answer + ": " + gates(nets);
    }

    private static String deeds(Supplier<GlitchNets> made) {
        StringBuilder told = new StringBuilder().append(made.get().count(2));
        for (int undone = 1; undone <= MOST_DEEDS + 1; undone++) {
            GlitchNets nets = made.get();
            int left = 0;
            for (int i = 0; i < undone; i++) {
                left = nets.undo();
            }
            told.append(" | ").append(left).append(", ").append(gates(nets)).append(", ").append(cover(nets));
        }
        return told.toString();
    }

    private static String image(GlitchNets nets) {
        int answer = nets.back();
        return answer + (answer < 0 ? "" : ", " + gates(nets) + ", " + cover(nets));
    }

    /** An item is told by the term that it makes: none can tell those above 15 apart. */
    private static String sheet(GlitchNets nets, int sheet) {
        if (nets.load(sheet, 0, 0, 0) == -11) {
            return "missing";
        }
        int sort = nets.load(sheet, 0, 0, 0) == 0 ? 0 : 1;
        StringBuilder told = new StringBuilder("sort ").append(sort).append(':');
        if (nets.count(1) == MOST_TERMS) {
            nets.off(0);
        }
        int other = (sheet + 1) % SHEETS;
        nets.sheet(other, sort, 2);
        for (int i = 0; i <= MOST_ITEMS && nets.copy(sheet, i, other, 0, 1) == 1; i++) {
            if (nets.load(other, sort, 0, 1) == 1) {
                int last = nets.count(1) - 1;
                told.append(' ').append(nets.termOf(last, 0));
                nets.off(last);
            } else {
                told.append(" over");
            }
        }
        return told.toString();
    }
}
