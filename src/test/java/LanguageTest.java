import java.io.IOException;
import java.lang.reflect.Field;
import java.lang.reflect.Method;
import java.lang.reflect.Modifier;
import java.nio.file.Files;
import java.nio.file.Path;
import java.util.Arrays;
import java.util.Set;
import java.util.TreeSet;
import java.util.regex.Matcher;
import java.util.regex.Pattern;

/** What of LANGUAGE.md can be seen from the source and the class without much ado. Run in the project's folder. */
public final class LanguageTest {
    private static final String[] FORBIDDEN = {
        "\\bthrow\\b", "\\btry\\b", "\\bcatch\\b", "\\bsynchronized\\b", "\\bassert\\b", "->", "::",
        "\\bpackage\\b", "static\\s*\\{", "Exact\\b", "\\bhashCode\\b", "\\btoString\\b", "\\bSystem\\.(?!arraycopy)",
        "\\bnew\\s+\\w+\\s*\\([^)]*\\)\\s*\\{"
    };
    private static final Set<String> FACE = Set.of("tone", "carve", "wall", "door", "build", "exchange", "improve",
        "cellOf", "doorOf", "count", "way", "drawn", "between", "farthest", "best", "bestExit", "keep", "restore",
        "undo", "type", "clearText", "fault", "read");
    private static final Set<String> CONSTANTS = Set.of("INVALID_ARGUMENT", "NOT_POSSIBLE", "LIMIT_REACHED", "NOT_FOUND");

    private static final Pattern METHOD = Pattern.compile("(    |        )(?! )[\\w \\[\\]]+\\(.*\\) \\{");

    private static final Pattern CONSTRUCTOR = Pattern.compile(" +(public )?[A-Z]\\w*\\(.*\\) \\{");
    private static final Pattern MAKES = Pattern.compile("\\bnew\\b|\\.clone\\(|\\bcopyOf|\\bvalues\\(");

    private static int wrong = 0;

    private static void due(boolean holds, String what) {
        if (!holds) {
            wrong++;
            System.out.println("LANGUAGE.md: " + what);
        }
    }

    private static void source() throws IOException {
        String text = Files.readString(Path.of("src/main/java/PortraitMazes.java"));
        String code = text.replaceAll("(?s)/\\*.*?\\*/", "").replaceAll("//[^\n]*", "");
        for (String pattern : FORBIDDEN) {
            Matcher found = Pattern.compile(pattern).matcher(code);
            due(!found.find(), "the source has " + pattern);
        }
        Matcher imports = Pattern.compile("import\\s+([\\w.]+)").matcher(code);
        while (imports.find()) {
            String name = imports.group(1);
            due(Set.of("java.util.Arrays", "java.util.ArrayList", "java.util.List", "java.util.Iterator").contains(name),
                "import of " + name);
        }
        due(text.chars().allMatch(sign -> sign < 128), "a sign above 127");
        methodLengths(text);
        objectsOfCalls(code);
    }

    /** All rows are made once: what makes an object stands in fields and constructors alone. */
    private static void objectsOfCalls(String code) {
        String end = "";
        boolean inCall = false;
        for (String line : code.split("\n")) {
            Matcher head = METHOD.matcher(line);
            if (end.isEmpty() && head.matches()) {
                end = head.group(1) + "}";
                inCall = !CONSTRUCTOR.matcher(line).matches();
            }
            due(!inCall || !MAKES.matcher(line).find(), "a call makes an object: " + line.strip());
            if (line.equals(end)) {
                end = "";
                inCall = false;
            }
        }
    }

    /** A method's head and its closing brace are indented alike: by 4 in the public class, by 8 in one inside it. */
    private static void methodLengths(String text) {
        String[] lines = text.split("\n");
        int found = 0;
        for (int first = 0; first < lines.length; first++) {
            Matcher head = METHOD.matcher(lines[first]);
            if (head.matches()) {
                found++;
                int last = first;
                while (last < lines.length && !lines[last].equals(head.group(1) + "}")) {
                    last++;
                }
                due(last - first < 60, "more than sixty lines: " + lines[first].strip());
            }
        }
        due(found > FACE.size(), "only " + found + " methods found");
    }

    private static void limits(Class<?> made) {
        long fields = Arrays.stream(made.getDeclaredFields())
            .filter(field -> !Modifier.isStatic(field.getModifiers())).count();
        due(fields <= 20, "more than twenty fields: " + made);
        for (Method method : made.getDeclaredMethods()) {
            due(method.getParameterCount() <= 7, "more than seven parameters: " + method);
        }
    }

    private static void face() {
        Class<?> mazes = PortraitMazes.class;
        Set<String> methods = new TreeSet<>();
        for (Method method : mazes.getDeclaredMethods()) {
            if (Modifier.isPublic(method.getModifiers())) {
                methods.add(method.getName());
            } else if (!method.isSynthetic()) {
                due(Modifier.isPrivate(method.getModifiers()), "not private: " + method.getName());
                due(!FACE.contains(method.getName()), "name of a public one: " + method.getName());
            }
        }
        due(methods.equals(FACE), "the public methods are " + methods);
        Set<String> constants = new TreeSet<>();
        for (Field field : mazes.getDeclaredFields()) {
            if (Modifier.isPublic(field.getModifiers())) {
                constants.add(field.getName());
            } else {
                due(Modifier.isPrivate(field.getModifiers()), "not private: " + field.getName());
            }
        }
        due(constants.equals(CONSTANTS), "the public fields are " + constants);
        due(Modifier.isFinal(mazes.getModifiers()), "the class is not final");
        due(mazes.getDeclaredConstructors().length == 1, "more than one constructor");
        due(mazes.getDeclaredClasses().length < 12, "more than twelve classes");
        limits(mazes);
        for (Class<?> inside : mazes.getDeclaredClasses()) {
            due(Modifier.isStatic(inside.getModifiers()), "not static: " + inside);
            limits(inside);
            for (Method method : inside.getDeclaredMethods()) {
                due(!FACE.contains(method.getName()), "name of a public one: " + method.getName());
            }
        }
    }

    public static void main(String[] args) throws IOException {
        source();
        face();
        System.out.println(wrong == 0 ? "the rules looked at hold" : wrong + " rules are broken");
        if (wrong != 0) {
            System.exit(1);
        }
    }
}
