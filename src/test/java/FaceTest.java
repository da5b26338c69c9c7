import java.lang.reflect.Constructor;
import java.lang.reflect.Field;
import java.lang.reflect.Method;
import java.lang.reflect.Modifier;
import java.util.ArrayList;
import java.util.Arrays;
import java.util.Collections;
import java.util.List;

/** The class shows the document's public face, and outside it nothing that isn't private. */
public final class FaceTest {
    private static final String[] METHODS = {
        "int feed 6", "int text 0", "int delay 2", "int drop 0", "int gate 2", "int taken 2", "int tells 2",
        "int table 0", "int wave 3", "int change 3", "int worst 1", "int glitches 1", "int path 1", "int term 2",
        "int off 1", "int termOf 2", "int covered 1", "int open 1", "int prime 1", "long added 1", "int told 4",
        "int film 3", "int undo 0", "int image 0", "int back 0", "int count 1", "int sheet 3", "int put 3",
        "int copy 5", "int load 4"
    };

    private FaceTest() {
    }

    public static void main(String[] args) {
        Due.is("public and final", GlitchNets.class.getModifiers(), Modifier.PUBLIC | Modifier.FINAL);
        checkConstructors();
        checkFields();
        checkMethods();
        for (Class<?> inside : GlitchNets.class.getDeclaredClasses()) {
            Due.holds(inside + " is static", Modifier.isStatic(inside.getModifiers()));
            Due.holds(inside + " is not to be seen", (inside.getModifiers() & (Modifier.PUBLIC | Modifier.PROTECTED)) == 0);
        }
        Due.end("FaceTest");
    }

    private static void checkConstructors() {
        Constructor<?>[] constructors = GlitchNets.class.getDeclaredConstructors();
        Due.is("constructors", constructors.length, 1);
        Due.is("without parameters", constructors[0].getParameterCount(), 0);
        Due.is("public", constructors[0].getModifiers(), Modifier.PUBLIC);
    }

    private static void checkFields() {
        List<String> seen = new ArrayList<>();
        for (Field field : GlitchNets.class.getDeclaredFields()) {
            if (!Modifier.isPrivate(field.getModifiers())) {
                seen.add(Modifier.toString(field.getModifiers()) + " " + field.getType() + " " + field.getName());
            } else if (Modifier.isStatic(field.getModifiers())) {
                Due.holds(field + " is final", Modifier.isFinal(field.getModifiers()));
            }
        }
        Collections.sort(seen);
        Due.holds("constants: " + seen, seen.equals(List.of("public static final int BAD",
                "public static final int FULL", "public static final int NONE", "public static final int STATE")));
    }

    private static void checkMethods() {
        List<String> seen = new ArrayList<>();
        List<String> names = new ArrayList<>();
        for (Method method : GlitchNets.class.getDeclaredMethods()) {
            if (Modifier.isPrivate(method.getModifiers())) {
                continue;
            }
            Due.is(method + " is public alone", method.getModifiers(), Modifier.PUBLIC);
            for (Class<?> type : method.getParameterTypes()) {
                Due.holds(method + " takes ints", type == int.class);
            }
            seen.add(method.getReturnType() + " " + method.getName() + " " + method.getParameterCount());
            names.add(method.getName());
        }
        List<String> due = new ArrayList<>(Arrays.asList(METHODS));
        Collections.sort(due);
        Collections.sort(seen);
        Due.holds("methods: " + seen, seen.equals(due));
        checkPrivateNames(GlitchNets.class, names);
        for (Class<?> inside : GlitchNets.class.getDeclaredClasses()) {
            checkPrivateNames(inside, names);
        }
    }

    private static void checkPrivateNames(Class<?> type, List<String> names) {
        for (Method method : type.getDeclaredMethods()) {
            if (Modifier.isPrivate(method.getModifiers())) {
                Due.holds(method + " bears no public name", !names.contains(method.getName()));
            }
        }
    }
}
