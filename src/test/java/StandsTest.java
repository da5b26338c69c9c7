import java.util.List;
import java.util.Map;
import java.util.function.Supplier;
import java.util.function.ToLongFunction;

/** What a call leaves as it stood: a refused one and a reading one all, another one all that it does not name. */
public final class StandsTest {
    private static final int NONE = -1, BAD = -2, STATE = -3, FULL = -4;
    private static final int LEAST = Given.LEAST, MOST = Given.MOST;
    private static final int[] WRONG_GATE_OF_FOUR = {-1, 4, LEAST, MOST};
    private static final int[] WRONG_SHEET = {-1, 4, LEAST, MOST};
    private static final int[] WRONG_STAND = {-1, 16, LEAST, MOST};
    private static final int[] WRONG_OF_THREE = {-1, 3, LEAST, MOST};
    private static final int[] WRONG_OF_TWO = {-1, 2, LEAST, MOST};
    private static final int[] WRONG_XY = {-1, 256, 0, 17, 34, 51, 68, 85, 102, 119, 136, 153, 170, 187, 204, 221, 238,
        255, LEAST, MOST};

    /** A way how objects stand, with all that can be read of them. */
    private record Standing(String name, Supplier<GlitchNets> made, Map<String, String> parts) {
        Standing(String name, Supplier<GlitchNets> made) {
            this(name, made, Stands.of(made));
        }
    }

    private final Standing none = new Standing("none", GlitchNets::new);
    private final Standing some = new Standing("some", StandsTest::some);
    private final Standing full = new Standing("full", StandsTest::full);
    private final Standing noGates = new Standing("no gates", StandsTest::noGates);

    private StandsTest() {
    }

    public static void main(String[] args) {
        StandsTest test = new StandsTest();
        test.readingSees();
        Due.by("Refusals, the first that fits as the call's words name them; they change nothing (but THE TAPE, where told)");
        test.refusedTexts();
        test.refusedGates();
        test.refusedWaves();
        test.refusedCovers();
        test.refusedTold();
        test.refusedDeeds();
        test.refusedSheets();
        test.refusedLoads();
        Due.by("Refusals, the first that fits as the call's words name them");
        test.orderOfBadAndState();
        test.orderOfFull();
        test.orderOfTold();
        test.orderOfSheets();
        Due.by("Nothing is promised beyond the answers and state changes described above");
        test.readingCalls();
        test.changingCalls();
        Due.end("StandsTest");
    }

    /** Four gates, three terms, six deeds, an image that is unlike, a tape that wants a delay, a sheet of each sort. */
    private static GlitchNets some() {
        GlitchNets nets = someWithoutTape();
        Given.feed(nets, "not a");
        return nets;
    }

    private static GlitchNets someWithoutTape() {
        GlitchNets nets = Given.net("not b 3", "and a b 2", "and 0 c 2");
        Given.addTerms(nets, 3, 3, 6, 4);
        nets.image();
        nets.delay(0, 4);
        Given.text(nets, "or 1 2 1");
        nets.term(5, 1);
        nets.off(0);
        nets.term(0, 0);
        nets.delay(1, 2);
        Given.row(nets, 0, 0, 1, 0, 7, 200);
        Given.row(nets, 1, 1, 3, 1, 300, -1, 15, 8);
        Given.row(nets, 3, 0);
        return nets;
    }

    private static GlitchNets full() {
        GlitchNets nets = Given.twelve();
        nets.image();
        Given.addTerms(nets, 15, 0, 15, 1, 15, 3, 7, 2, 15, 6, 8, 0, 15, 15, 15, 14);
        Given.feed(nets, "  not    a    5               ");
        for (int sheet = 0; sheet < 4; sheet++) {
            nets.sheet(sheet, sheet % 2, 40);
            nets.put(sheet, 0, 9);
            nets.put(sheet, 39, 1 + sheet);
        }
        return nets;
    }

    private static GlitchNets noGates() {
        GlitchNets nets = some();
        for (int i = 0; i < 4; i++) {
            nets.drop();
        }
        nets.off(0);
        return nets;
    }

    /** Else nothing here would find a fault. */
    private void readingSees() {
        Due.holds("some unlike none", differing(some, none.parts).size() == some.parts.size() - 1);
        Due.is("bytes of the full tape", full.made.get().count(3), 30);
        Due.holds("the full tape's gate", full.parts.get("tape").endsWith("5 -1 -1 5;"));
        Due.holds("the tape's gate", some.parts.get("tape").endsWith("5 -1 -1 5;"));
        Due.is("deeds", some.made.get().count(2), 6);
        Due.holds("ints", some.parts.get("sheet 1").equals("sort 1: 3 1 over over 15 8"));
        Due.holds("bytes", some.parts.get("sheet 0").equals("sort 0: 1 0 7 over"));
        Due.holds("no items", some.parts.get("sheet 3").equals("sort 0:"));
    }

    private static List<String> differing(Standing at, Map<String, String> parts) {
        return at.parts.keySet().stream().filter(part -> !at.parts.get(part).equals(parts.get(part))).toList();
    }

    private static Map<String, String> partsBehind(Standing at, ToLongFunction<GlitchNets> call) {
        return Stands.of(() -> {
            GlitchNets nets = at.made.get();
            call.applyAsLong(nets);
            return nets;
        });
    }

    private static void refused(Standing at, String call, long due, ToLongFunction<GlitchNets> called) {
        Due.is(call + " at " + at.name, called.applyAsLong(at.made.get()), due);
        Due.is(call + " again", twice(at, called), due);
        List<String> changed = differing(at, partsBehind(at, called));
        Due.holds(call + " at " + at.name + " changed " + changed, changed.isEmpty());
    }

    private static long twice(Standing at, ToLongFunction<GlitchNets> called) {
        GlitchNets nets = at.made.get();
        called.applyAsLong(nets);
        return called.applyAsLong(nets);
    }

    private static void changes(Standing at, String call, long due, ToLongFunction<GlitchNets> called, String... parts) {
        Due.is(call + " at " + at.name, called.applyAsLong(at.made.get()), due);
        List<String> changed = differing(at, partsBehind(at, called));
        Due.holds(call + " at " + at.name + " changed " + changed, changed.equals(List.of(parts)));
    }

    private void refusedTexts() {
        for (int n : new int[] {0, 6, -1, LEAST, MOST}) {
            refused(some, "feed: n " + n, BAD, g -> g.feed(n, 97, 97, 97, 97, 97));
        }
        for (int v : new int[] {-1, 256, LEAST, MOST}) {
            refused(some, "feed: a " + v, BAD, g -> g.feed(1, v, 1, 1, 1, 1));
            refused(some, "feed: b " + v, BAD, g -> g.feed(2, 1, v, 1, 1, 1));
            refused(some, "feed: e, that does not come, " + v, BAD, g -> g.feed(4, 1, 1, 1, 1, v));
        }
        for (int n = 1; n <= 5; n++) {
            int fed = n;
            refused(full, "feed: no room for " + n, FULL, g -> g.feed(fed, 97, 97, 97, 97, 97));
        }
        refusedText("text: a fault", "not a", -105, StandsTest::someWithoutTape);
        refusedText("text: a fault of a whole tape", "not    a     0                ", -113, StandsTest::someWithoutTape);
        refusedText("text: none", "", -100, StandsTest::someWithoutTape);
        refusedText("text: a 13th", "not a 1", FULL, Given::twelve);
        refusedText("text: a fault by twelve", "not 12 1", -104, Given::twelve);
    }

    /** A refused text empties the tape, so it stands as what never had one. */
    private static void refusedText(String call, String text, long due, Supplier<GlitchNets> withoutTape) {
        Standing before = new Standing("without tape", withoutTape);
        Due.is(call, Given.text(withoutTape.get(), text), due);
        List<String> changed = differing(before, partsBehind(before, g -> Given.text(g, text)));
        Due.holds(call + " changed " + changed, changed.isEmpty());
    }

    private void refusedGates() {
        for (int gate : WRONG_GATE_OF_FOUR) {
            refused(some, "delay: gate " + gate, BAD, g -> g.delay(gate, 1));
            refused(some, "gate: gate " + gate, BAD, g -> g.gate(gate, 0));
            refused(some, "taken: gate " + gate, BAD, g -> g.taken(gate, 0));
            refused(some, "tells: gate " + gate, BAD, g -> g.tells(gate, 0));
        }
        for (int v : new int[] {0, 10, -1, LEAST, MOST}) {
            refused(some, "delay: v " + v, BAD, g -> g.delay(0, v));
            refused(full, "delay: v " + v, BAD, g -> g.delay(11, v));
        }
        for (int what : new int[] {-1, 6, LEAST, MOST}) {
            refused(some, "gate: what " + what, BAD, g -> g.gate(0, what));
            refused(some, "taken: k " + what, BAD, g -> g.taken(0, what));
        }
        refused(some, "taken: of another kind", -13, g -> g.taken(0, 0));
        refused(none, "drop", STATE, GlitchNets::drop);
        refused(noGates, "drop", STATE, GlitchNets::drop);
        for (int inputs : WRONG_STAND) {
            refused(some, "tells: inputs " + inputs, BAD, g -> g.tells(0, inputs));
        }
    }

    private void refusedWaves() {
        for (int stand : WRONG_STAND) {
            refused(some, "wave: x " + stand, BAD, g -> g.wave(stand, 0, 0));
            refused(some, "wave: y " + stand, BAD, g -> g.wave(0, stand, 0));
            refused(some, "change: x " + stand, BAD, g -> g.change(stand, 0, 0));
            refused(some, "change: y " + stand, BAD, g -> g.change(0, stand, 0));
        }
        for (int time : new int[] {-1, 109, LEAST, MOST}) {
            refused(some, "wave: time " + time, BAD, g -> g.wave(0, 1, time));
        }
        for (int what : WRONG_OF_THREE) {
            refused(some, "change: what " + what, BAD, g -> g.change(0, 1, what));
            refused(some, "worst: what " + what, BAD, g -> g.worst(what));
            refused(some, "glitches: g " + what, BAD, g -> g.glitches(what));
        }
        refused(some, "wave: the same", BAD, g -> g.wave(15, 15, 0));
        refused(some, "change: the same", BAD, g -> g.change(0, 0, 0));
        refused(some, "path: k", BAD, g -> g.path(-1));
        for (Standing at : List.of(none, noGates)) {
            refused(at, "table", STATE, GlitchNets::table);
            refused(at, "wave", STATE, g -> g.wave(0, 1, 0));
            refused(at, "change", STATE, g -> g.change(0, 1, 0));
            refused(at, "worst", STATE, g -> g.worst(0));
            refused(at, "glitches", STATE, g -> g.glitches(0));
            refused(at, "path", STATE, g -> g.path(0));
            refused(at, "covered", STATE, g -> g.covered(1));
        }
    }

    private void refusedCovers() {
        for (int stand : WRONG_STAND) {
            refused(some, "term: cares " + stand, BAD, g -> g.term(stand, 0));
            refused(some, "term: wants " + stand, BAD, g -> g.term(15, stand));
        }
        refused(some, "term: wants more than cares", BAD, g -> g.term(5, 2));
        refused(full, "term: a ninth", FULL, g -> g.term(0, 0));
        refused(full, "term: a ninth, as there is one", FULL, g -> g.term(15, 15));
        for (int place : new int[] {-1, 3, LEAST, MOST}) {
            refused(some, "off: place " + place, BAD, g -> g.off(place));
            refused(some, "termOf: place " + place, BAD, g -> g.termOf(place, 0));
        }
        refused(full, "off: place 8", BAD, g -> g.off(8));
        refused(none, "off: none", BAD, g -> g.off(0));
        for (int what : WRONG_OF_THREE) {
            refused(some, "termOf: what " + what, BAD, g -> g.termOf(0, what));
        }
        for (int what : WRONG_OF_TWO) {
            refused(some, "covered: what " + what, BAD, g -> g.covered(what));
            refused(some, "added: what " + what, BAD, g -> g.added(what));
        }
        for (int k : new int[] {-2, 32, LEAST, MOST}) {
            refused(some, "open: k " + k, -12, g -> g.open(k));
            refused(some, "prime: k " + k, -12, g -> g.prime(k));
        }
    }

    private void refusedTold() {
        for (int sheet : WRONG_SHEET) {
            refused(some, "told: sheet " + sheet, BAD, g -> g.told(sheet, 1, 0, 0));
            refused(some, "film: sheet " + sheet, BAD, g -> g.film(sheet, 1, 1));
        }
        for (int xy : WRONG_XY) {
            refused(some, "told: xy " + xy, BAD, g -> g.told(0, xy, 0, 0));
            refused(some, "film: xy " + xy, BAD, g -> g.film(0, xy, 1));
        }
        for (int gate : WRONG_GATE_OF_FOUR) {
            refused(some, "told: delays of gate " + gate, BAD, g -> g.told(0, 1, gate, 1));
            refused(some, "told: kinds of gate " + gate, BAD, g -> g.told(0, 1, gate, 2));
        }
        for (int what : WRONG_OF_THREE) {
            refused(some, "told: what " + what, BAD, g -> g.told(0, 1, 0, what));
            refused(some, "told: a missing one", -11, g -> g.told(2, 1, 0, 0));
        }
        for (int n : new int[] {-1, 41, LEAST, MOST}) {
            refused(some, "film: n " + n, BAD, g -> g.film(0, 1, n));
            refused(some, "film of a missing one: n " + n, BAD, g -> g.film(2, 1, n));
        }
        refused(noGates, "told", STATE, g -> g.told(0, 1, 0, 0));
        refused(noGates, "film", STATE, g -> g.film(0, 1, 2));
        refused(none, "film of a missing one", STATE, g -> g.film(0, 1, 0));
    }

    private void refusedDeeds() {
        refused(none, "undo", STATE, GlitchNets::undo);
        refused(none, "back", STATE, GlitchNets::back);
        Standing noImage = new Standing("no image", Given::hazard);
        refused(noImage, "back, with deeds", STATE, GlitchNets::back);
        Standing dropped = new Standing("dropped", () -> {
            GlitchNets nets = full();
            nets.drop();
            return nets;
        });
        refused(dropped, "undo", STATE, GlitchNets::undo);
        for (int what : new int[] {-1, 4, LEAST, MOST}) {
            refused(some, "count: what " + what, BAD, g -> g.count(what));
        }
    }

    private void refusedSheets() {
        for (int sheet : WRONG_SHEET) {
            refused(some, "sheet: sheet " + sheet, BAD, g -> g.sheet(sheet, 0, 1));
            refused(some, "sheet: missing, sheet " + sheet, BAD, g -> g.sheet(sheet, -1, 1));
            refused(some, "put: sheet " + sheet, BAD, g -> g.put(sheet, 0, 1));
            refused(some, "copy: sheet " + sheet, BAD, g -> g.copy(sheet, 0, 0, 0, 1));
            refused(some, "copy: other " + sheet, BAD, g -> g.copy(0, 0, sheet, 0, 1));
        }
        for (int sort : new int[] {-2, 2, LEAST, MOST}) {
            refused(some, "sheet: sort " + sort, BAD, g -> g.sheet(0, sort, 1));
        }
        refused(some, "sheet: n 41", BAD, g -> g.sheet(0, 0, 41));
        refused(some, "sheet: n most", BAD, g -> g.sheet(1, 1, MOST));
        refused(some, "sheet: n -1", -14, g -> g.sheet(0, 1, -1));
        refused(some, "sheet: n least", -14, g -> g.sheet(1, 0, LEAST));
        refused(some, "sheet: a missing one, n -1", -14, g -> g.sheet(2, 0, -1));
        refused(some, "put: missing", -11, g -> g.put(2, 0, 1));
        for (int i : new int[] {-1, 4, LEAST, MOST}) {
            refused(some, "put: item " + i, -12, g -> g.put(0, i, 5));
            refused(some, "copy: from item " + i, -12, g -> g.copy(0, i, 0, 1, 1));
            refused(some, "copy: to item " + i, -12, g -> g.copy(0, 0, 0, i, 1));
        }
        refused(some, "put: no items", -12, g -> g.put(3, 0, 1));
        refused(some, "copy: missing", -11, g -> g.copy(2, 0, 0, 0, 1));
        refused(some, "copy: other missing", -11, g -> g.copy(0, 0, 2, 0, 1));
        refused(some, "copy: unlike sorts", -13, g -> g.copy(0, 0, 1, 0, 1));
        refused(some, "copy: unlike sorts, of none", -13, g -> g.copy(1, 0, 0, 0, 0));
        refused(some, "copy: n -1", -12, g -> g.copy(0, 2, 0, 2, -1));
        refused(some, "copy: n least", -12, g -> g.copy(0, 2, 0, 2, LEAST));
        refused(some, "copy: n most", -12, g -> g.copy(0, 1, 0, 1, MOST));
        refused(some, "copy: more than stand", -12, g -> g.copy(1, 1, 1, 0, 6));
        refused(some, "copy: more than have room", -12, g -> g.copy(1, 0, 1, 1, 6));
        refused(some, "copy: to no items", -12, g -> g.copy(0, 0, 3, 0, 1));
    }

    private void refusedLoads() {
        for (int sheet : WRONG_SHEET) {
            refused(some, "load: sheet " + sheet, BAD, g -> g.load(sheet, 0, 0, 1));
        }
        for (int sort : WRONG_OF_TWO) {
            refused(some, "load: sort " + sort, BAD, g -> g.load(0, sort, 0, 1));
            refused(some, "load: a missing one, sort " + sort, BAD, g -> g.load(2, sort, 0, 0));
        }
        for (int n : new int[] {-1, 9, LEAST, MOST}) {
            refused(some, "load: n " + n, BAD, g -> g.load(1, 1, 0, n));
        }
        for (int n = 0; n <= 8; n += 4) {
            int terms = n;
            refused(some, "load: another sort, n " + n, -13, g -> g.load(1, 0, 0, terms));
            refused(some, "load: the other way, n " + n, -13, g -> g.load(0, 1, 0, terms));
            refused(some, "load: missing, n " + n, -11, g -> g.load(2, 0, 0, terms));
            refused(some, "load: missing, of ints, n " + n, -11, g -> g.load(2, 1, 0, terms));
        }
        for (int from : new int[] {-1, -2, 5, 6, LEAST, MOST, MOST - 1}) {
            refused(some, "load: from " + from, -12, g -> g.load(1, 1, from, 1));
        }
        refused(some, "load: no items", -12, g -> g.load(3, 0, 0, 1));
        changes(some, "load: what stood ahead came", -12, g -> g.load(1, 1, 4, 2), "cover", "deeds");
        refused(full, "load: all FULL, then outside", -12, g -> g.load(0, 0, 36, 3));
        refused(full, "load: all FULL", 0, g -> g.load(0, 0, 2, 8));
    }

    private void orderOfBadAndState() {
        for (Standing at : List.of(none, noGates)) {
            refused(at, "wave: x ahead of STATE", BAD, g -> g.wave(16, 0, 0));
            refused(at, "wave: y ahead of STATE", BAD, g -> g.wave(0, -1, 0));
            refused(at, "wave: the same ahead of STATE", BAD, g -> g.wave(1, 1, 0));
            refused(at, "wave: time ahead of STATE", BAD, g -> g.wave(0, 1, 109));
            refused(at, "change: x ahead of STATE", BAD, g -> g.change(-1, 0, 0));
            refused(at, "change: y ahead of STATE", BAD, g -> g.change(0, 16, 0));
            refused(at, "change: the same ahead of STATE", BAD, g -> g.change(0, 0, 0));
            refused(at, "change: what ahead of STATE", BAD, g -> g.change(0, 1, 3));
            refused(at, "worst: what ahead of STATE", BAD, g -> g.worst(3));
            refused(at, "glitches: g ahead of STATE", BAD, g -> g.glitches(-1));
            refused(at, "path: k ahead of STATE", BAD, g -> g.path(-1));
            refused(at, "covered: what ahead of STATE", BAD, g -> g.covered(2));
            refused(at, "film: sheet ahead of STATE", BAD, g -> g.film(4, 1, 1));
            refused(at, "film: x ahead of STATE", BAD, g -> g.film(0, 256, 1));
            refused(at, "film: the same ahead of STATE", BAD, g -> g.film(0, 17, 1));
            refused(at, "film: n ahead of STATE", BAD, g -> g.film(0, 1, 41));
            refused(at, "gate: none at all", BAD, g -> g.gate(0, 0));
            refused(at, "delay: none at all", BAD, g -> g.delay(0, 1));
            refused(at, "taken: none at all", BAD, g -> g.taken(0, 0));
            refused(at, "tells: none at all", BAD, g -> g.tells(0, 0));
        }
    }

    private void orderOfFull() {
        refused(full, "feed: n ahead of FULL", BAD, g -> g.feed(6, 1, 1, 1, 1, 1));
        refused(full, "feed: a ahead of FULL", BAD, g -> g.feed(1, 256, 1, 1, 1, 1));
        refused(full, "feed: e ahead of FULL", BAD, g -> g.feed(1, 1, 1, 1, 1, -1));
        refused(full, "term: cares ahead of FULL", BAD, g -> g.term(16, 0));
        refused(full, "term: wants ahead of FULL", BAD, g -> g.term(1, 2));
        refused(full, "taken: k ahead of another kind", BAD, g -> g.taken(0, 6));
        Due.is("text: FAULT ahead of FULL", Given.text(Given.twelve(), "not a 0"), -106);
        Due.is("text: too early ahead of FULL", Given.text(Given.twelve(), "not a"), -105);
        Due.is("text: FULL behind it", Given.text(Given.twelve(), "not a 1"), FULL);
    }

    private void orderOfTold() {
        for (Standing at : List.of(none, noGates)) {
            refused(at, "told: sheet ahead of STATE", BAD, g -> g.told(4, 1, 0, 0));
            refused(at, "told: x ahead of STATE", BAD, g -> g.told(2, -1, 0, 0));
            refused(at, "told: the same ahead of STATE", BAD, g -> g.told(2, 255, 0, 0));
            refused(at, "told: what ahead of STATE", BAD, g -> g.told(2, 1, 0, 3));
            refused(at, "told: gate ahead of STATE by 1", BAD, g -> g.told(2, 1, 0, 1));
            refused(at, "told: gate ahead of STATE by 2", BAD, g -> g.told(2, 1, 0, 2));
            refused(at, "told: STATE ahead of missing", STATE, g -> g.told(2, 1, 0, 0));
        }
        refused(some, "told: x ahead of missing", BAD, g -> g.told(2, 256, 0, 0));
        refused(some, "told: the same ahead of missing", BAD, g -> g.told(2, 17, 0, 0));
        refused(some, "told: what ahead of missing", BAD, g -> g.told(2, 1, 0, -1));
        refused(some, "told: gate ahead of missing by 1", BAD, g -> g.told(2, 1, 4, 1));
        refused(some, "told: gate ahead of missing by 2", BAD, g -> g.told(2, 1, -1, 2));
        refused(some, "told: by 0 gate does not matter", -11, g -> g.told(2, 1, 4, 0));
    }

    private void orderOfSheets() {
        refused(some, "sheet: no such one ahead of a size below 0", BAD, g -> g.sheet(4, 0, -1));
        refused(some, "sheet: sort ahead of a size below 0", BAD, g -> g.sheet(0, 2, -1));
        refused(some, "sheet: sort -2 ahead of a size below 0", BAD, g -> g.sheet(0, -2, -1));
        refused(some, "put: missing ahead of outside", -11, g -> g.put(2, -1, 0));
        refused(some, "copy: BAD ahead of missing", BAD, g -> g.copy(2, 0, 4, 0, 1));
        refused(some, "copy: BAD ahead of missing, the other way", BAD, g -> g.copy(-1, 0, 2, 0, 1));
        refused(some, "copy: BAD ahead of outside", BAD, g -> g.copy(0, -1, 4, 0, 1));
        refused(some, "copy: missing ahead of unlike sorts", -11, g -> g.copy(2, 0, 1, 0, 1));
        refused(some, "copy: missing ahead of outside", -11, g -> g.copy(0, -1, 2, 0, 1));
        refused(some, "copy: missing ahead of n below 0", -11, g -> g.copy(2, 0, 0, 0, -1));
        refused(some, "copy: unlike sorts ahead of outside", -13, g -> g.copy(0, 4, 1, 6, 1));
        refused(some, "copy: unlike sorts ahead of n below 0", -13, g -> g.copy(0, 0, 1, 0, -1));
        refused(some, "load: sheet ahead of all", BAD, g -> g.load(4, 1, -1, 1));
        refused(some, "load: sort ahead of missing", BAD, g -> g.load(2, 2, 0, 1));
        refused(some, "load: n ahead of another sort", BAD, g -> g.load(0, 1, 0, 9));
        refused(some, "load: n ahead of missing", BAD, g -> g.load(2, 0, 0, -1));
        refused(some, "load: n ahead of outside", BAD, g -> g.load(0, 0, -1, 9));
        refused(some, "load: another sort ahead of outside", -13, g -> g.load(0, 1, -1, 1));
        refused(some, "load: missing ahead of outside", -11, g -> g.load(2, 1, -1, 1));
    }

    private void readingCalls() {
        reads("gate", g -> g.gate(3, 4));
        reads("taken", g -> g.taken(3, 2));
        reads("tells", g -> g.tells(3, 15));
        reads("table", GlitchNets::table);
        reads("wave", g -> g.wave(7, 5, 4));
        reads("change", g -> g.change(7, 5, 0));
        reads("worst", g -> g.worst(0));
        reads("glitches", g -> g.glitches(1));
        reads("path", g -> g.path(1));
        reads("termOf", g -> g.termOf(0, 2));
        reads("covered", g -> g.covered(1));
        reads("open", g -> g.open(NONE));
        reads("prime", g -> g.prime(0));
        reads("added", g -> g.added(1));
        reads("told", g -> g.told(0, 117, 0, 0));
        reads("delays told", g -> g.told(3, 117, 0, 1));
        reads("kinds told", g -> g.told(3, 117, 3, 2));
        reads("count", g -> g.count(2));
        reads("copy of none", g -> g.copy(0, 4, 0, 4, 0));
        reads("load of none", g -> g.load(0, 0, 9, 0));
    }

    private void reads(String call, ToLongFunction<GlitchNets> called) {
        for (Standing at : List.of(none, some, full, noGates)) {
            List<String> changed = differing(at, partsBehind(at, called));
            Due.holds(call + " at " + at.name + " changed " + changed, changed.isEmpty());
        }
    }

    private void changingCalls() {
        changes(some, "feed", 8, g -> g.feed(3, 98, 98, 98, 255, 255), "tape");
        changes(some, "delay", 4, g -> g.delay(0, 9), "gates", "tape", "deeds");
        changes(some, "delay, the same one", 4, g -> g.delay(0, 4), "deeds");
        changes(some, "drop", 3, GlitchNets::drop, "gates", "tape", "deeds");
        changes(some, "term", 3, g -> g.term(9, 8), "cover", "deeds");
        changes(some, "off", 2, g -> g.off(2), "cover", "deeds");
        changes(some, "film", 2, g -> g.film(2, 1, 2), "sheet 2");
        changes(some, "film of none", 0, g -> g.film(1, 1, 0), "sheet 1");
        changes(some, "undo", 5, GlitchNets::undo, "deeds");
        changes(some, "image", 4, GlitchNets::image, "image");
        changes(some, "back", 3, GlitchNets::back, "gates", "cover", "tape", "deeds");
        changes(some, "sheet", 1, g -> g.sheet(0, 0, 5), "sheet 0");
        changes(some, "sheet of none", 1, g -> g.sheet(2, 1, 0), "sheet 2");
        changes(some, "sheet, missing", 1, g -> g.sheet(1, -1, 0), "sheet 1");
        changes(some, "put", 1, g -> g.put(1, 5, 2), "sheet 1");
        changes(some, "copy", 2, g -> g.copy(0, 1, 0, 0, 2), "sheet 0");
        changes(some, "load", 1, g -> g.load(1, 1, 0, 1), "cover", "deeds");
        changes(none, "feed", 1, g -> g.feed(1, 0, 0, 0, 0, 0), "tape");
        changes(none, "image of none", 0, GlitchNets::image, "image");
        changes(none, "film of a missing one is refused", STATE, g -> g.film(0, 1, 1));
        Due.is("text leaves the cover", Stands.of(StandsTest::someAndText).get("cover").compareTo(some.parts.get("cover")), 0);
        Due.is("text leaves the image", Stands.of(StandsTest::someAndText).get("image").compareTo(some.parts.get("image")), 0);
    }

    private static GlitchNets someAndText() {
        GlitchNets nets = someWithoutTape();
        Given.text(nets, "not a 1");
        return nets;
    }
}
