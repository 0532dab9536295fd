import java.io.IOException;
import java.lang.reflect.Field;
import java.lang.reflect.Method;
import java.lang.reflect.Modifier;
import java.nio.file.Files;
import java.nio.file.Path;
import java.util.ArrayList;
import java.util.List;
import java.util.Map;
import java.util.Set;
import java.util.TreeMap;
import java.util.TreeSet;
import java.util.regex.Matcher;
import java.util.regex.Pattern;

/** Rules of LANGUAGE.md that can be read off the source and the fields; the face itself is in FaceTest. */
public final class LanguageTest {
    private static final Due DUE = new Due();
    private static final String[] BANNED = {"throw", "throws", "try", "catch", "synchronized", "assert", "protected",
        "import", "package", "var", "Object", "instanceof", "equals", "hashCode", "toString", "->", "::", "Exact\\("};
    private static final Set<Class<?>> PLAIN = Set.of(int.class, long.class, short.class, byte.class, char.class,
        boolean.class, double.class, float.class);
    private static final Set<Class<?>> CONSTANT = Set.of(int.class, long.class, boolean.class, char.class, String.class);
    private static final Pattern HEAD = Pattern.compile(
            "^( {4}| {8})(?:public |private )?(?:static )?(?:[\\w\\[\\]]+ )?(\\w+)\\(([^)]*)\\) \\{$");

    /** The lines of all methods of each name, heads and ends among them; a constructor bears its class's name. */
    private final Map<String, List<String>> methods = new TreeMap<>();
    private final Set<String> constructors = new TreeSet<>();
    private final String code;

    private LanguageTest(String text) {
        code = text.replaceAll("(?s)/\\*.*?\\*/", "").replaceAll("//[^\n]*", "");
        for (Class<?> c : classes()) {
            constructors.add(c.getSimpleName());
        }
    }

    public static void main(String[] args) throws IOException {
        LanguageTest t = new LanguageTest(Files.readString(Path.of("src/main/java/SliceDepot.java")));
        t.bannedWords();
        t.library();
        t.fields();
        t.readMethods();
        t.calls();
        t.whatIsMade();
        DUE.end();
    }

    private static List<Class<?>> classes() {
        List<Class<?>> all = new ArrayList<>(List.of(SliceDepot.class.getDeclaredClasses()));
        all.add(SliceDepot.class);
        return all;
    }

    private void bannedWords() {
        for (String word : BANNED) {
            String pattern = word.matches("\\w+") ? "\\b" + word + "\\b" : word;
            DUE.no("the source has " + word, Pattern.compile(pattern).matcher(code).find());
        }
        DUE.no("a static block", Pattern.compile("\\bstatic\\s*\\{").matcher(code).find());
    }

    /** Rule 4: of the library, the program needs no more than two functions of Math and the clone of an array. */
    private void library() {
        Matcher m = Pattern.compile("\\b([A-Z]\\w*)\\.(\\w+)").matcher(code);
        while (m.find()) {
            boolean own = constructors.contains(m.group(1));
            DUE.yes(m.group() + " may be used", own || m.group().matches("Math\\.(max|min)"));
        }
    }

    /** Rules 3, 5 and 11. */
    private void fields() {
        DUE.yes("at most twelve classes", classes().size() <= 12);
        for (Class<?> c : classes()) {
            int state = 0;
            for (Field f : c.getDeclaredFields()) {
                Class<?> type = f.getType();
                if (Modifier.isStatic(f.getModifiers())) {
                    DUE.yes(f + " is final", Modifier.isFinal(f.getModifiers()));
                    DUE.yes(f + " is a constant", CONSTANT.contains(type));
                } else {
                    state++;
                    Class<?> part = type.isArray() ? type.getComponentType() : type;
                    DUE.yes(f + " has a type of rule 3", PLAIN.contains(part) || classes().contains(part));
                }
            }
            DUE.yes(c + " has at most twenty fields", state <= 20);
        }
    }

    /** Rule 11: "A method takes at most seven parameters. Methods stay short (some sixty lines)". */
    private void readMethods() {
        List<String> body = null;
        String end = "";
        int begun = 0;
        String[] lines = code.split("\n");
        for (int i = 0; i < lines.length; i++) {
            Matcher head = HEAD.matcher(lines[i]);
            if (body == null && head.find()) {
                body = methods.computeIfAbsent(head.group(2), name -> new ArrayList<>());
                end = head.group(1) + "}";
                begun = i;
                DUE.yes(head.group(2) + " takes at most seven", head.group(3).split(",").length <= 7);
            }
            if (body != null) {
                body.add(lines[i]);
                if (lines[i].equals(end)) {
                    DUE.yes("line " + begun + " begins a short method", i - begun < 60);
                    body = null;
                }
            }
        }
        DUE.yes("every method has an end", body == null);
        for (Class<?> c : classes()) {
            for (Method m : c.getDeclaredMethods()) {
                DUE.yes(m + " was read", m.isSynthetic() || methods.containsKey(m.getName()));
            }
        }
    }

    /** Rules 8 and 11: no method calls itself, by no way round, and calls go at most eight deep. */
    private void calls() {
        for (String name : methods.keySet()) {
            int depth = depth(name, new ArrayList<>());
            DUE.yes(name + " goes " + depth + " deep", depth <= 8);
        }
    }

    /** Methods of one name are taken together, so a depth may be found too great, never too small. */
    private int depth(String name, List<String> above) {
        if (above.contains(name)) {
            DUE.yes(name + " calls itself by way of " + above, false);
            return 0;
        }
        above.add(name);
        int deepest = 0;
        for (String called : calledIn(methods.get(name))) {
            deepest = Math.max(deepest, depth(called, above));
        }
        above.remove(above.size() - 1);
        return deepest + 1;
    }

    private Set<String> calledIn(List<String> lines) {
        Set<String> called = new TreeSet<>();
        for (String line : lines) {
            Matcher m = Pattern.compile("\\b(\\w+)\\(").matcher(HEAD.matcher(line).find() ? "" : line);
            while (m.find()) {
                if (methods.containsKey(m.group(1))) {
                    called.add(m.group(1));
                }
            }
        }
        return called;
    }

    /** Rule 12: rows are made in constructors; a call makes one small thing at most. */
    private void whatIsMade() {
        for (Map.Entry<String, List<String>> method : methods.entrySet()) {
            boolean makes = String.join("\n", method.getValue()).matches("(?s).*(\\bnew\\b|\\.clone\\(\\)).*");
            boolean may = constructors.contains(method.getKey()) || Set.of("unpack", "rootId").contains(method.getKey());
            DUE.yes(method.getKey() + " makes nothing", may || !makes);
        }
    }
}
