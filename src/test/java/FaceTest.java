import java.lang.reflect.Constructor;
import java.lang.reflect.Field;
import java.lang.reflect.Method;
import java.lang.reflect.Modifier;
import java.nio.file.Files;
import java.nio.file.Path;
import java.util.Arrays;
import java.util.HashMap;
import java.util.LinkedHashMap;
import java.util.Map;
import java.util.Set;
import java.util.TreeSet;
import java.util.regex.Matcher;
import java.util.regex.Pattern;

/** The public face, and those rules of LANGUAGE.md that can be seen in the class or its source. */
final class FaceTest {
    private static final Path SOURCE = Path.of("src/main/java/PegTables.java");
    private static final Checks CHECKS = new Checks();

    private FaceTest() {
    }

    public static void main(String[] args) throws Exception {
        publicMembersAreThoseOfTheDocument();
        constantsHaveTheirValues();
        membersKeepToTheLanguage();
        String code = Files.readString(SOURCE).replaceAll("(?s)/\\*.*?\\*/|//[^\n]*", " ");
        wordsKeepToTheLanguage(code);
        Map<String, String> bodies = methodBodies(code);
        methodsAreShort(bodies);
        callsAreNotDeep(bodies);
        CHECKS.end();
    }

    private static void publicMembersAreThoseOfTheDocument() {
        Set<String> want = new TreeSet<>(Set.of(
            "public PegTables()",
            "public int PegTables.token(int,int)",
            "public void PegTables.clear()",
            "public int PegTables.type(int)",
            "public void PegTables.erase()",
            "public int PegTables.match(int,int)",
            "public int PegTables.matches(int)",
            "public int PegTables.find(int,int)",
            "public int PegTables.whole(int)",
            "public int PegTables.stuck(int)"));
        for (String name : constants().keySet()) {
            want.add("public static final int PegTables." + name);
        }
        Set<String> got = new TreeSet<>();
        for (Constructor<?> member : PegTables.class.getDeclaredConstructors()) {
            got.add(member.toString());
        }
        for (Method member : PegTables.class.getDeclaredMethods()) {
            if (!Modifier.isPrivate(member.getModifiers())) {
                got.add(member.toString());
            }
        }
        for (Field member : PegTables.class.getDeclaredFields()) {
            if (!Modifier.isPrivate(member.getModifiers())) {
                got.add(member.toString());
            }
        }
        CHECKS.holds("the members that aren't private are " + want + " and not " + got, got.equals(want));
        int modifiers = PegTables.class.getModifiers();
        CHECKS.holds("public and final", Modifier.isPublic(modifiers) && Modifier.isFinal(modifiers));
        CHECKS.due("nested classes", PegTables.class.getDeclaredClasses().length, 0);
    }

    private static Map<String, Integer> constants() {
        Map<String, Integer> values = new LinkedHashMap<>();
        String[] codes = {"LETTER", "ANY", "NOTHING", "CALL", "THEN", "ELSE", "STAR", "MAYBE", "AHEAD", "NOT", "DEFINE"};
        for (int code = 0; code < codes.length; code++) {
            values.put(codes[code], code);
        }
        values.put("FAILS", -1);
        values.put("STUCK", -2);
        return values;
    }

    private static void constantsHaveTheirValues() throws Exception {
        for (Map.Entry<String, Integer> constant : constants().entrySet()) {
            int got = PegTables.class.getField(constant.getKey()).getInt(null);
            CHECKS.due(constant.getKey(), got, constant.getValue());
        }
    }

    private static void membersKeepToTheLanguage() {
        Set<Class<?>> types = Set.of(int.class, long.class, short.class, byte.class, char.class, boolean.class,
            int[].class, long[].class, short[].class, byte[].class, char[].class, boolean[].class, void.class);
        int fields = 0;
        for (Field field : PegTables.class.getDeclaredFields()) {
            CHECKS.holds("rule 2: " + field, types.contains(field.getType()));
            if (Modifier.isStatic(field.getModifiers())) {
                CHECKS.holds("rule 5: " + field, Modifier.isFinal(field.getModifiers())
                    && (field.getType() == int.class || field.getType() == long.class));
            } else {
                fields++;
            }
        }
        CHECKS.holds("rule 10: at most forty fields", fields <= 40);
        Set<String> publicNames = new TreeSet<>();
        for (Method method : PegTables.class.getMethods()) {
            publicNames.add(method.getName());
        }
        for (Method method : PegTables.class.getDeclaredMethods()) {
            CHECKS.holds("rule 2: " + method, types.contains(method.getReturnType())
                && types.containsAll(Arrays.asList(method.getParameterTypes())));
            CHECKS.holds("rule 4: " + method, !method.getReturnType().isArray());
            CHECKS.holds("rule 10: " + method, method.getParameterCount() <= 7);
            CHECKS.holds("rule 1: " + method,
                !Modifier.isPrivate(method.getModifiers()) || !publicNames.contains(method.getName()));
        }
    }

    private static void wordsKeepToTheLanguage(String code) {
        String[] words = {"import", "package", "float", "double", "String", "Math", "Integer", "System", "Arrays",
            "null", "throw", "try", "catch", "synchronized", "assert", "instanceof", "->", "::",
            "toString", "equals", "hashCode", "getClass", "\"", "@", "\\[\\s*\\]\\s*\\["};
        for (String word : words) {
            String pattern = word.matches("\\w+") ? "\\b" + word + "\\b" : word;
            boolean found = Pattern.compile(pattern, Pattern.DOTALL).matcher(code).find();
            CHECKS.holds("LANGUAGE.md leaves out " + word, !found);
        }
        Matcher made = Pattern.compile("[^\n]*\\bnew\\b[^\n]*").matcher(code);
        while (made.find()) {
            String line = made.group().trim();
            CHECKS.holds("rule 4: " + line, line.matches("private final int\\[\\] \\w+ = new int\\[[A-Z_]+\\];"));
        }
        // One level of brackets inside an argument list is enough to see a call in a call.
        Matcher nested = Pattern.compile("\\b(?!if|for|while|switch|return)\\w+\\(([^()]*\\w\\()").matcher(code);
        while (nested.find()) {
            CHECKS.holds("rule 10: a call inside the arguments of another: " + nested.group(), false);
        }
    }

    /** The text of each method between its outer braces, by its name. */
    private static Map<String, String> methodBodies(String code) {
        Map<String, String> bodies = new LinkedHashMap<>();
        Matcher head = Pattern.compile("(?:public|private)(?: static)? (?:(?:\\w+) )?(\\w+)\\([^()]*\\) \\{").matcher(code);
        while (head.find()) {
            int depth = 1;
            int at = head.end();
            while (depth > 0) {
                depth += code.charAt(at) == '{' ? 1 : code.charAt(at) == '}' ? -1 : 0;
                at++;
            }
            bodies.put(head.group(1), code.substring(head.end(), at - 1));
        }
        int methods = PegTables.class.getDeclaredMethods().length + 1;
        CHECKS.due("methods seen in the source, with the constructor", bodies.size(), methods);
        return bodies;
    }

    private static void methodsAreShort(Map<String, String> bodies) {
        for (Map.Entry<String, String> body : bodies.entrySet()) {
            CHECKS.holds("rule 10: " + body.getKey() + " is short", body.getValue().lines().count() <= 60);
        }
    }

    private static void callsAreNotDeep(Map<String, String> bodies) {
        Map<String, Integer> depths = new HashMap<>();
        // As many rounds as methods settle every depth, unless a method calls itself through others.
        for (int round = 0; round <= bodies.size(); round++) {
            for (String name : bodies.keySet()) {
                depths.put(name, depthOf(name, bodies, depths));
            }
        }
        for (Map.Entry<String, Integer> depth : depths.entrySet()) {
            CHECKS.holds("rules 8 and 10: " + depth.getKey() + " goes " + depth.getValue() + " deep", depth.getValue() <= 6);
        }
    }

    private static int depthOf(String name, Map<String, String> bodies, Map<String, Integer> depths) {
        int below = 0;
        for (String other : bodies.keySet()) {
            if (Pattern.compile("\\b" + other + "\\(").matcher(bodies.get(name)).find()) {
                below = Integer.max(below, depths.getOrDefault(other, 0));
            }
        }
        return below + 1;
    }
}
