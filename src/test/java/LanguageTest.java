import java.io.IOException;
import java.lang.reflect.Executable;
import java.lang.reflect.Field;
import java.lang.reflect.Modifier;
import java.nio.file.Files;
import java.nio.file.Path;
import java.util.ArrayList;
import java.util.List;
import java.util.Map;
import java.util.Set;
import java.util.TreeMap;
import java.util.TreeSet;
import java.util.regex.Matcher;
import java.util.regex.Pattern;

/**
 * What the words and counts in the text of the class show of LANGUAGE.md: rules 2, 3, 4, 5, 6, 8,
 * 11, 12 and 13. FaceTest has rule 1 and more of 2 and 5, LongRunTest rules 7 and 9, as far as
 * runs of calls show them; rule 10 allows, and forbids texts joined by +, of which there is none.
 * Where a rule allows something on conditions and the class has no need of it (texts, doubles,
 * casts and the like), the words alone are told here: who needs them looks at the conditions.
 */
public final class LanguageTest {
    private static final Set<String> LIBRARY = Set.of("System.arraycopy", "Arrays.fill",
            "Arrays.copyOf", "Arrays.copyOfRange", "Math.min", "Math.max");
    private static final Set<String> NO_METHODS = Set.of("if", "for", "while", "switch");
    private static final Pattern HEAD = Pattern.compile(
            "( +)(?:(?:public|private|static|final) )*(?:[\\w\\[\\]]+ )?(\\w+)\\([^()]*\\) \\{");
    private static final Pattern CALLED = Pattern.compile("(\\w+)\\(");

    private final List<String> lines = new ArrayList<>();
    private final List<Class<?>> classes = new ArrayList<>();
    private final Map<String, StringBuilder> bodies = new TreeMap<>();
    private int methods = 0;

    private LanguageTest() {
    }

    public static void main(String[] args) throws IOException {
        LanguageTest test = new LanguageTest();
        test.read();
        test.classesAndMembers();
        test.words();
        test.library();
        test.methods();
        test.depth();
        test.objects();
        Due.end();
    }

    private void read() throws IOException {
        for (String line : Files.readAllLines(Path.of("src/main/java/XorOverlay.java"))) {
            String bare = line.replaceFirst("//.*", "").stripTrailing();
            if (!bare.strip().startsWith("*") && !bare.strip().startsWith("/*")) {
                lines.add(bare);
            }
        }
        classes.add(XorOverlay.class);
        classes.addAll(List.of(XorOverlay.class.getDeclaredClasses()));
    }

    private void classesAndMembers() {
        Due.is("rule 11: at most some 12 classes", classes.size() <= 12, true);
        for (Class<?> owner : classes) {
            int fields = 0;
            for (Field field : owner.getDeclaredFields()) {
                boolean isStatic = Modifier.isStatic(field.getModifiers());
                fields += isStatic ? 0 : 1;
                isOfAllowedType(field, isStatic);
            }
            Due.is("rule 11: at most some 20 fields in " + owner, fields <= 20, true);
            List<Executable> members = new ArrayList<>(List.of(owner.getDeclaredMethods()));
            members.addAll(List.of(owner.getDeclaredConstructors()));
            for (Executable member : members) {
                Due.is("rule 2: no lambda, " + member, member.isSynthetic(), false);
                Due.is("rule 11: at most seven, " + member, member.getParameterCount() <= 7, true);
            }
            methods += members.size();
        }
    }

    private void isOfAllowedType(Field field, boolean isStatic) {
        Class<?> type = field.getType();
        if (isStatic) {
            Due.is("rule 5: a constant of int, " + field, type == int.class, true);
        } else {
            Class<?> each = type.isArray() ? type.getComponentType() : type;
            boolean isAllowed = each == int.class || each == boolean.class || isOwn(each);
            Due.is("rule 3: the type of " + field, isAllowed, true);
        }
    }

    private boolean isOwn(Class<?> type) {
        return classes.contains(type);
    }

    private void words() {
        Pattern forbidden = Pattern.compile("\\b(throws?|try|catch|finally|synchronized|assert"
                + "|package|instanceof|equals|hashCode|toString|double|float|String|Thread)\\b"
                + "|->|::|\"|\\bstatic \\{|new \\w+\\(.*\\) \\{");
        for (String line : lines) {
            if (forbidden.matcher(line).find()) {
                Due.tell("rules 2 to 6 and 10: " + line.strip());
            }
        }
    }

    private void library() {
        Pattern used = Pattern.compile("\\b([A-Z]\\w*[a-z]\\w*)\\.(\\w+)\\(");
        for (String line : lines) {
            if (line.startsWith("import ")) {
                Due.is("rules 4 and 13: " + line, line.equals("import java.util.Arrays;"), true);
            }
            Matcher call = used.matcher(line);
            while (call.find()) {
                String name = call.group(1) + "." + call.group(2);
                Due.is("rules 4 and 13: " + name, LIBRARY.contains(name), true);
            }
        }
    }

    private void methods() {
        int told = 0;
        for (int i = 0; i < lines.size(); i++) {
            Matcher head = HEAD.matcher(lines.get(i));
            if (!head.matches() || NO_METHODS.contains(head.group(2))) {
                continue;
            }
            told++;
            int end = i;
            StringBuilder body = bodies.computeIfAbsent(head.group(2), n -> new StringBuilder());
            while (!lines.get(end).equals(head.group(1) + "}")) {
                end++;
                body.append(lines.get(end)).append('\n');
            }
            Due.is("rule 11: some sixty lines, " + head.group(2), end - i <= 60, true);
        }
        // Else a method stands in the text in a form that is not looked at here.
        Due.is("methods and constructors seen in the text", told, methods);
    }

    private void depth() {
        for (String name : bodies.keySet()) {
            Due.is("rules 8 and 11: eight deep at most, " + name, deep(name, 1) <= 8, true);
        }
    }

    /** How deep calls go from here; one that came back to itself would be too deep. */
    private int deep(String name, int depth) {
        int deepest = depth;
        if (depth <= 8 && bodies.containsKey(name)) {
            for (String called : calledBy(name)) {
                deepest = Math.max(deepest, deep(called, depth + 1));
            }
        }
        return deepest;
    }

    private Set<String> calledBy(String name) {
        Set<String> names = new TreeSet<>();
        Matcher called = CALLED.matcher(bodies.get(name));
        while (called.find()) {
            names.add(called.group(1));
        }
        names.removeAll(NO_METHODS);
        return names;
    }

    private void objects() {
        for (Map.Entry<String, StringBuilder> body : bodies.entrySet()) {
            String name = body.getKey();
            boolean makes = body.getValue().toString().matches("(?s).*\\bnew\\b.*");
            boolean isConstructor = Character.isUpperCase(name.charAt(0));
            boolean isFirstJoin = name.equals("enrolIfRoom");
            Due.is("rule 12: made by " + name, makes && !isConstructor && !isFirstJoin, false);
        }
    }
}
