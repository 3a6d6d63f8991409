import java.lang.reflect.Field;
import java.lang.reflect.Method;
import java.lang.reflect.Modifier;
import java.nio.charset.StandardCharsets;
import java.nio.file.Files;
import java.nio.file.Path;
import java.util.ArrayList;
import java.util.HashMap;
import java.util.List;
import java.util.Map;
import java.util.Set;
import java.util.TreeSet;
import java.util.regex.Matcher;
import java.util.regex.Pattern;

/** The rules of ../shared/LANGUAGE.md that can be seen from the source or from the class, by their numbers. */
public final class LanguageTest {
    private static final int MOST_LINES = 60;
    private static final int MOST_PARAMETERS = 7;
    private static final int MOST_FIELDS = 20;
    private static final int MOST_DEPTH = 8;
    private static final Pattern METHOD = Pattern.compile(
            "(?m)^ +(?:public |private |static )*(?:int|long|boolean|void|char|String|int\\[\\]) (\\w+)\\(([^)]*)\\)[^;{]*\\{");
    private static final Set<String> LIBRARY = Set.of("Math.max", "Math.min", "Math.floorMod", "Integer.bitCount");

    private final Due due = new Due();
    private final String source;
    private final String code;
    private final Map<String, Set<String>> callsOf = new HashMap<>();

    private LanguageTest(String source) {
        this.source = source;
        code = withoutTexts(source);
    }

    /** The source without comments and without what stands in quotes; its lines stay as many. */
    private static String withoutTexts(String source) {
        StringBuilder code = new StringBuilder();
        Matcher m = Pattern.compile("(?s)/\\*.*?\\*/|//[^\n]*|\"[^\"\n]*\"|'[^'\n]*'").matcher(source);
        int from = 0;
        while (m.find()) {
            code.append(source, from, m.start());
            code.append(m.group().replaceAll("[^\n]", " "));
            from = m.end();
        }
        return code.append(source.substring(from)).toString();
    }

    private void has(String rule, String pattern, boolean want) {
        Matcher m = Pattern.compile(pattern).matcher(code);
        boolean found = m.find();
        due.is(rule + (found ? ": " + m.group().trim() : ""), found, want);
    }

    private void words() {
        boolean plain = true;
        for (int i = 0; i < source.length(); i++) {
            plain = plain && source.charAt(i) >= 1 && source.charAt(i) <= 127;
        }
        due.is("rule 4: signs 1 to 127", plain, true);
        has("no package line", "\\bpackage\\b", false);
        has("rule 2: no lambda, no method reference", "->|::", false);
        has("rule 3: no Object, no wrapper but Integer", "\\b(Object|Long\\s+\\w|Boolean|Character|Double|Float)\\b", false);
        has("rule 6: no finally, synchronized, assert", "\\b(finally|synchronized|assert|volatile|native)\\b", false);
        has("rule 6: nothing is caught", "\\b(try|catch)\\b", false);
        has("rule 6: only what is told is thrown", "\\bthrow\\b(?! new NoSuchElementException\\()", false);
        has("rule 6: setting throws", "throw new NoSuchElementException", true);
        has("rule 13: no clock, files, threads", "\\b(java\\.io|java\\.nio|java\\.time|Thread|Random|System)\\b", false);
        has("only one import", "\\bimport (?!java\\.util\\.NoSuchElementException;)", false);
        Matcher m = Pattern.compile("\\b(Math|Integer|Long|Arrays|List|String|Character)\\.\\w+").matcher(code);
        while (m.find()) {
            due.is("rule 4: " + m.group(), LIBRARY.contains(m.group()), true);
        }
    }

    private int behindBody(int open) {
        int depth = 0;
        for (int i = open; i < code.length(); i++) {
            depth += code.charAt(i) == '{' ? 1 : code.charAt(i) == '}' ? -1 : 0;
            if (depth == 0) {
                return i + 1;
            }
        }
        return code.length();
    }

    private void methods() {
        Map<String, String> bodies = new HashMap<>();
        Matcher m = METHOD.matcher(code);
        while (m.find()) {
            String body = code.substring(m.end() - 1, behindBody(m.end() - 1));
            String name = m.group(1);
            due.is("rule 11: lines of " + name, body.split("\n").length <= MOST_LINES, true);
            bodies.merge(name, body, String::concat);
        }
        for (String name : bodies.keySet()) {
            Set<String> calls = new TreeSet<>();
            Matcher call = Pattern.compile("(\\bMath\\.)?\\b(\\w+)\\(").matcher(bodies.get(name));
            while (call.find()) {
                if (call.group(1) == null && bodies.containsKey(call.group(2))) {
                    calls.add(call.group(2));
                }
            }
            callsOf.put(name, calls);
        }
    }

    /** Methods of one name count as one; a chain of calls that comes back to itself has more than any depth. */
    private int depth(String name, List<String> above) {
        if (above.contains(name) || above.size() > 2 * MOST_DEPTH) {
            System.out.println("a chain of calls: " + above + " " + name);
            return 1000;
        }
        List<String> here = new ArrayList<>(above);
        here.add(name);
        int deepest = 0;
        for (String called : callsOf.get(name)) {
            deepest = Math.max(deepest, depth(called, here));
        }
        return deepest + 1;
    }

    private void depths() {
        int seen = 0;
        for (Method m : MadeTown.class.getDeclaredMethods()) {
            if (Modifier.isPublic(m.getModifiers())) {
                int depth = callsOf.containsKey(m.getName()) ? depth(m.getName(), new ArrayList<>()) : 0;
                due.is("rule 11: depth of " + m.getName() + ", " + depth, depth <= MOST_DEPTH, true);
                seen = Math.max(seen, depth);
            }
        }
        due.is("depths are seen, such as that of would", seen >= MOST_DEPTH - 1, true);
    }

    private void parts(Class<?> type) {
        int own = 0;
        for (Field f : type.getDeclaredFields()) {
            boolean isStatic = Modifier.isStatic(f.getModifiers());
            own += isStatic ? 0 : 1;
            Class<?> kind = f.getType();
            boolean number = kind == int.class || kind == long.class || kind == boolean.class || kind == String.class;
            due.is("rule 5: " + f.getName(), !isStatic || number && Modifier.isFinal(f.getModifiers()), true);
            boolean row = kind == int[].class || kind == long[].class || kind == boolean[].class;
            due.is("rule 3: " + f.getName(), number || row || kind.getEnclosingClass() == MadeTown.class, true);
        }
        due.is("rule 11: fields of " + type.getSimpleName(), own <= MOST_FIELDS, true);
        for (Method m : type.getDeclaredMethods()) {
            due.is(m.getName() + " is found in the source", callsOf.containsKey(m.getName()), true);
            due.is("rule 11: parameters of " + m.getName(), m.getParameterCount() <= MOST_PARAMETERS, true);
        }
    }

    public static void main(String[] args) throws Exception {
        Path file = Path.of("src/main/java/MadeTown.java");
        LanguageTest test = new LanguageTest(new String(Files.readAllBytes(file), StandardCharsets.ISO_8859_1));
        test.words();
        test.methods();
        test.depths();
        test.parts(MadeTown.class);
        for (Class<?> inside : MadeTown.class.getDeclaredClasses()) {
            test.parts(inside);
        }
        test.due.is("rule 11: classes", MadeTown.class.getDeclaredClasses().length + 1 <= 12, true);
        test.due.end();
    }
}
