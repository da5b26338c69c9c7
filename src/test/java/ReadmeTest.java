import java.io.File;
import java.io.IOException;
import java.lang.reflect.InvocationTargetException;
import java.lang.reflect.Method;
import java.lang.reflect.Modifier;
import java.nio.file.Files;
import java.nio.file.Path;
import java.util.HashSet;
import java.util.Set;
import java.util.regex.Matcher;
import java.util.regex.Pattern;

/** What README.md shows holds: its examples answer as they say, it shows every call and names every test. */
public final class ReadmeTest {
    private static final Pattern CALL = Pattern.compile("nets\\.(\\w+)\\((.*?)\\);\\s*// ([^:]+)(:.*)?");

    private final Set<String> shown = new HashSet<>();
    private GlitchNets nets;

    private ReadmeTest() {
    }

    public static void main(String[] args) throws IOException, IllegalAccessException, InvocationTargetException {
        String readme = Files.readString(Path.of("README.md"));
        ReadmeTest test = new ReadmeTest();
        test.runExamples(readme.split("\n"));
        for (Method method : GlitchNets.class.getDeclaredMethods()) {
            if (Modifier.isPublic(method.getModifiers())) {
                Due.holds("README.md shows " + method.getName(), test.shown.contains(method.getName()));
            }
        }
        for (String file : new File("src/test/java").list()) {
            if (file.endsWith("Test.java")) {
                String name = file.substring(0, file.length() - ".java".length());
                Due.holds("README.md names " + name, readme.contains("`" + name + "`"));
            }
        }
        Due.end("ReadmeTest");
    }

    private void runExamples(String[] lines) throws IllegalAccessException, InvocationTargetException {
        boolean inExample = false;
        for (String line : lines) {
            if (line.startsWith("```")) {
                inExample = line.equals("```java");
            } else if (inExample) {
                runLine(line);
            }
        }
    }

    private void runLine(String line) throws IllegalAccessException, InvocationTargetException {
        if (line.equals("GlitchNets nets = new GlitchNets();")) {
            nets = new GlitchNets();
            return;
        }
        Matcher call = CALL.matcher(line);
        if (!call.matches()) {
            Due.holds("a call with its answer: " + line, false);
            return;
        }
        String[] told = call.group(2).isEmpty() ? new String[0] : call.group(2).split(",");
        Object[] args = new Object[told.length];
        for (int i = 0; i < told.length; i++) {
            args[i] = number(told[i]);
        }
        shown.add(call.group(1));
        for (Method method : GlitchNets.class.getDeclaredMethods()) {
            if (method.getName().equals(call.group(1))) {
                Due.is(line, ((Number) method.invoke(nets, args)).longValue(), number(call.group(3)));
            }
        }
    }

    private static int number(String told) {
        String text = told.trim();
        if (text.startsWith("'")) {
            return text.charAt(1);
        }
        switch (text.replace("GlitchNets.", "")) {
            case "NONE": return GlitchNets.NONE;
            case "BAD": return GlitchNets.BAD;
            case "STATE": return GlitchNets.STATE;
            case "FULL": return GlitchNets.FULL;
            default: return Integer.decode(text);
        }
    }
}
