import java.io.IOException;
import java.lang.reflect.Method;
import java.lang.reflect.Modifier;
import java.nio.file.Files;
import java.nio.file.Path;
import java.util.ArrayList;
import java.util.List;
import java.util.Set;
import java.util.TreeSet;
import java.util.regex.Matcher;
import java.util.regex.Pattern;

/** The example of README.md, line by line as it stands there: each call has to give the answer that is told. */
public final class ReadmeTest extends Check {
    private static final String MADE = "ChimeDrum tower = new ChimeDrum();";
    private static final Pattern CALL = Pattern.compile("tower\\.(\\w+)\\((.*?)\\); +// (-?\\d+|true|false): (.+)");
    private static final Pattern QUOTED = Pattern.compile("\"([^\"]*)\"");

    public static void main(String[] args) throws ReflectiveOperationException, IOException {
        sentence("README.md");
        List<String> lines = example(Files.readAllLines(Path.of("README.md")));
        due("the first line", MADE, lines.isEmpty() ? "" : lines.get(0));
        ChimeDrum tower = new ChimeDrum();
        Set<String> shown = new TreeSet<>();
        for (int i = 1; i < lines.size(); i++) {
            Matcher call = CALL.matcher(lines.get(i));
            boolean isCall = call.matches();
            due("a call with its answer: " + lines.get(i), true, isCall);
            if (isCall) {
                shown.add(call.group(1));
                ask(tower, call);
            }
        }
        due("calls shown", face().toString(), shown.toString());
        end();
    }

    /** The lines of all Java in the page. */
    private static List<String> example(List<String> page) {
        List<String> lines = new ArrayList<>();
        boolean inside = false;
        for (String line : page) {
            if (line.startsWith("```")) {
                inside = line.equals("```java");
            } else if (inside) {
                lines.add(line);
            }
        }
        return lines;
    }

    private static Set<String> face() {
        Set<String> names = new TreeSet<>();
        for (Method method : ChimeDrum.class.getDeclaredMethods()) {
            if (Modifier.isPublic(method.getModifiers())) {
                names.add(method.getName());
            }
        }
        return names;
    }

    private static void ask(ChimeDrum tower, Matcher call) throws ReflectiveOperationException {
        String[] written = call.group(2).split(", *");
        Class<?>[] types = new Class<?>[written.length];
        Object[] values = new Object[written.length];
        for (int i = 0; i < written.length; i++) {
            boolean isWord = written[i].matches("true|false");
            types[i] = isWord ? boolean.class : int.class;
            values[i] = isWord ? (Object) Boolean.valueOf(written[i]) : (Object) Integer.decode(written[i]);
        }
        Object got = ChimeDrum.class.getMethod(call.group(1), types).invoke(tower, values);
        due(call.group(1) + "(" + call.group(2) + ")", call.group(3), String.valueOf(got));
        Matcher quoted = QUOTED.matcher(call.group(4));
        if (quoted.find()) {
            due("the text of " + call.group(), quoted.group(1), textOf(tower, call.group(1), values, quoted.group(1).length()));
        }
    }

    /** The text that a call is about: all that was read, or the first bytes that were fed. */
    private static String textOf(ChimeDrum tower, String name, Object[] values, int size) {
        StringBuilder text = new StringBuilder();
        if (name.equals("read")) {
            for (int i = 0; tower.octet(i) != NONE; i++) {
                text.append((char) tower.octet(i));
            }
        } else if (name.equals("feed")) {
            for (int i = 0; i < size && i < 20; i++) {
                text.append((char) ((Integer) values[i / 4] >> (24 - i % 4 * 8) & 255));
            }
        }
        return text.toString();
    }
}
