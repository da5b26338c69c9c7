import java.io.IOException;
import java.lang.reflect.Array;
import java.lang.reflect.Field;
import java.lang.reflect.Modifier;
import java.nio.file.Files;
import java.nio.file.Path;
import java.util.IdentityHashMap;
import java.util.Map;

/** All objects of a run live in one room: each is to be small, and its calls are to make nothing. */
public final class RoomTest {
    private static final int MOST_THINGS = 80;
    private static final int MOST_ELEMENTS = 1200;

    private final Map<Object, Boolean> things = new IdentityHashMap<>();
    private int elements = 0;

    private RoomTest() {
    }

    public static void main(String[] args) throws IOException, IllegalAccessException {
        GlitchNets nets = new GlitchNets();
        RoomTest fresh = of(nets);
        Due.holds(fresh.things.size() + " objects and arrays", fresh.things.size() <= MOST_THINGS);
        Due.holds(fresh.elements + " fields and elements", fresh.elements <= MOST_ELEMENTS);
        callAll(nets);
        RoomTest used = of(nets);
        Due.is("fields and elements behind the calls", used.elements, fresh.elements);
        Due.holds("calls keep to what was made", used.things.keySet().equals(fresh.things.keySet()));
        checkSource(Files.readString(Path.of("src/main/java/GlitchNets.java")));
        Due.end("RoomTest");
    }

    private static RoomTest of(GlitchNets nets) throws IllegalAccessException {
        RoomTest room = new RoomTest();
        room.count(nets);
        return room;
    }

    private void count(Object thing) throws IllegalAccessException {
        if (thing == null || things.put(thing, true) != null) {
            return;
        }
        if (thing.getClass().isArray()) {
            countArray(thing);
            return;
        }
        for (Field field : thing.getClass().getDeclaredFields()) {
            if (Modifier.isStatic(field.getModifiers())) {
                continue;
            }
            elements++;
            if (!field.getType().isPrimitive()) {
                field.setAccessible(true);
                count(field.get(thing));
            }
        }
    }

    private void countArray(Object array) throws IllegalAccessException {
        elements += Array.getLength(array);
        if (array.getClass().getComponentType().isPrimitive()) {
            return;
        }
        for (int i = 0; i < Array.getLength(array); i++) {
            count(Array.get(array, i));
        }
    }

    private static void callAll(GlitchNets nets) {
        String[] texts = {"not b 3", "and a b 2", "and 0 c 2", "or 1 2 1", "or 9"};
        for (String text : texts) {
            Given.text(nets, text);
        }
        Given.addTerms(nets, 3, 3, 6, 4);
        nets.image();
        nets.film(0, 0x75, 40);
        for (int what = 0; what < 3; what++) {
            nets.told(0, 0x75, 0, what);
            nets.worst(what);
            nets.glitches(what);
            nets.change(7, 5, what);
        }
        nets.path(2);
        nets.open(0);
        nets.prime(0);
        nets.added(1);
        Given.row(nets, 1, 1, 5, 5, 1, 1);
        nets.load(1, 1, 0, 2);
        nets.copy(1, 0, 1, 1, 2);
        nets.sheet(0, -1, 0);
        nets.delay(0, 5);
        nets.off(0);
        nets.undo();
        nets.drop();
        nets.back();
    }

    /** In the program `new` stands where a field gets its row or object; the sheets alone come one by one. */
    private static void checkSource(String source) {
        for (String line : source.split("\n")) {
            if (line.matches(".*\\bnew\\b.*") && !line.trim().matches("(/\\*\\*|//).*")) {
                Due.holds("made with the object: " + line.trim(),
                        line.matches(" +(private )?final \\S+ \\w+ = new .*;") || line.trim().equals("sheets[i] = new Sheet();"));
            }
        }
    }
}
