import java.io.IOException;
import java.lang.reflect.Field;
import java.lang.reflect.Method;
import java.lang.reflect.Modifier;
import java.nio.file.Files;
import java.nio.file.Path;
import java.util.ArrayList;
import java.util.List;
import java.util.Set;
import java.util.TreeSet;
import java.util.regex.Matcher;
import java.util.regex.Pattern;

/** The public face, and those rules of LANGUAGE.md that can be seen in the class and in its source. */
public final class FaceTest {
    private static final String[] FACE = {
        "int bell(int,int,int)", "boolean crack(int,boolean)", "boolean holes(int)", "boolean rest(int)",
        "boolean force(int)", "boolean life(int)", "int feed(int,int,int,int,int)", "int tune(int,int)",
        "int shift(int)", "int set(int,int)", "int moves(int,int)", "int why(int,int)", "int nearest(int)",
        "boolean pin(int,int,boolean)", "int mend(int,int)", "int turn(int,int)", "int read(int,int)",
        "int octet(int)", "int strikes(int,int)", "int look(int,int)", "int told(int,int)", "int count(int)"};
    /** Patterns of what LANGUAGE.md rules out, lambdas apart: an arrow of a switch is fine. */
    private static final String[] RULED_OUT = {"\\bthrows?\\b", "\\btry\\b", "\\bcatch\\b", "\\bsynchronized\\b",
        "\\bassert\\b", "\\bstatic \\{", "::", "Exact\\(", "\\bprotected\\b", "\\bpackage ", "\\bSystem\\.(?!arraycopy)",
        "\\bObject\\b", "\\bint hashCode\\(", "\\bString toString\\(", "\\bboolean equals\\("};
    private static int wrong = 0;

    private static void due(boolean holds, String what) {
        if (!holds) {
            wrong++;
            System.out.println(what);
        }
    }

    public static void main(String[] args) throws IOException {
        face();
        fields(ChimeDrum.class);
        methods(ChimeDrum.class);
        for (Class<?> inside : ChimeDrum.class.getDeclaredClasses()) {
            inside(inside);
        }
        due(ChimeDrum.class.getDeclaredClasses().length <= 11, "more than twelve classes");
        source(Files.readString(Path.of("src/main/java/ChimeDrum.java")));
        System.out.println(wrong == 0 ? "the face and the rules are kept" : wrong + " are not kept");
        if (wrong != 0) {
            System.exit(1);
        }
    }

    private static void face() {
        Class<?> c = ChimeDrum.class;
        due(Modifier.isPublic(c.getModifiers()) && Modifier.isFinal(c.getModifiers()), "not public and final");
        due(c.getDeclaredConstructors().length == 1 && c.getConstructors().length == 1, "not one public constructor");
        Set<String> found = new TreeSet<>();
        for (Method method : c.getDeclaredMethods()) {
            if (!Modifier.isPrivate(method.getModifiers()) && !method.isSynthetic()) {
                due(Modifier.isPublic(method.getModifiers()) && !Modifier.isStatic(method.getModifiers()), "not public: " + method);
                found.add(signature(method));
            }
        }
        due(found.equals(new TreeSet<>(List.of(FACE))), "not the document's methods: " + found);
    }

    private static String signature(Method method) {
        List<String> types = new ArrayList<>();
        for (Class<?> type : method.getParameterTypes()) {
            types.add(type.getName());
        }
        return method.getReturnType().getName() + " " + method.getName() + "(" + String.join(",", types) + ")";
    }

    private static void inside(Class<?> c) {
        due(Modifier.isStatic(c.getModifiers()) && !Modifier.isPublic(c.getModifiers()), "not static and hidden: " + c);
        fields(c);
        methods(c);
    }

    private static void methods(Class<?> c) {
        for (Method method : c.getDeclaredMethods()) {
            for (String face : FACE) {
                boolean alike = face.contains(" " + method.getName() + "(");
                due(!alike || !Modifier.isPrivate(method.getModifiers()), "bears a public one's name: " + method);
            }
            due(method.getParameterCount() <= 7, "more than seven parameters: " + method);
        }
    }

    private static void fields(Class<?> c) {
        int own = 0;
        for (Field field : c.getDeclaredFields()) {
            int how = field.getModifiers();
            if (Modifier.isStatic(how)) {
                due(Modifier.isFinal(how), "static and not final: " + field);
            } else {
                own++;
            }
            boolean hidden = Modifier.isPrivate(how) || field.getName().equals("NONE");
            due(hidden || c != ChimeDrum.class, "not private: " + field);
        }
        due(own <= 20, "more than twenty fields: " + c);
    }

    private static void source(String text) {
        String bare = text.replaceAll("(?s)/\\*.*?\\*/", "").replaceAll("//.*", "").replaceAll("\"[^\"\\n]*\"", "\"\"");
        for (String pattern : RULED_OUT) {
            due(!Pattern.compile(pattern).matcher(bare).find(), "ruled out: " + pattern);
        }
        for (String line : bare.split("\n")) {
            due(!line.contains("->") || line.matches("\\s*(case|default)\\b.*"), "a lambda: " + line.trim());
        }
        for (int i = 0; i < text.length(); i++) {
            due(text.charAt(i) < 128, "not a plain character at " + i);
        }
        Matcher imports = Pattern.compile("import ([\\w.]+);").matcher(bare);
        while (imports.find()) {
            due(imports.group(1).matches("java\\.util\\.(Arrays|ArrayList|List)"), "not in the library: " + imports.group(1));
        }
        methodsAreShort(bare.split("\n"));
    }

    private static void methodsAreShort(String[] lines) {
        for (int i = 0; i < lines.length; i++) {
            Matcher head = Pattern.compile("( +)(?!.*\\bclass\\b).*\\) \\{").matcher(lines[i]);
            if (!head.matches()) {
                continue;
            }
            int end = i;
            while (end < lines.length && !lines[end].equals(head.group(1) + "}")) {
                end++;
            }
            due(end - i < 60, "too long: " + lines[i].trim());
        }
    }
}
