import java.lang.reflect.Field;
import java.lang.reflect.Method;
import java.lang.reflect.Modifier;
import java.nio.file.Files;
import java.nio.file.Path;
import java.util.Collections;
import java.util.regex.Matcher;
import java.util.regex.Pattern;

/** README.md tells of the whole public face, and its example answers what its comments say. */
final class ReadmeTest {
    private static final Path README = Path.of("README.md");
    private static final Pattern BLOCK = Pattern.compile("(?s)```java\n(.*?)```");
    private static final Pattern CALL = Pattern.compile("x\\.(\\w+)\\(([^()]*)\\);(?:\\s*// (-?\\d+).*)?");
    private static final Checks CHECKS = new Checks();

    private ReadmeTest() {
    }

    public static void main(String[] args) throws Exception {
        String readme = Files.readString(README);
        everyMethodIsTold(readme);
        everyConstantIsTold(readme);
        CHECKS.holds("the way to run the tests is told", readme.contains("\n    .ci/run\n"));
        Matcher block = BLOCK.matcher(readme);
        CHECKS.holds("there is an example", block.find());
        exampleAnswersWhatItSays(block.group(1));
        CHECKS.end();
    }

    private static void everyMethodIsTold(String readme) {
        CHECKS.holds("the constructor has a row", readme.contains("| `new PegTables()` |"));
        for (Method method : PegTables.class.getDeclaredMethods()) {
            if (Modifier.isPublic(method.getModifiers())) {
                String arguments = String.join(", ", Collections.nCopies(method.getParameterCount(), "\\w+"));
                Pattern row = Pattern.compile("\\| `" + method.getName() + "\\(" + arguments + "\\)` \\|");
                CHECKS.holds(method.getName() + " has a row", row.matcher(readme).find());
            }
        }
    }

    private static void everyConstantIsTold(String readme) throws Exception {
        for (Field field : PegTables.class.getFields()) {
            String told = "`" + field.getName() + "` (" + field.getInt(null) + ")";
            CHECKS.holds(told + " is told", readme.contains(told));
        }
    }

    private static void exampleAnswersWhatItSays(String example) throws Exception {
        String[] lines = example.split("\n");
        CHECKS.holds("it makes an object first", lines[0].equals("PegTables x = new PegTables();"));
        PegTables x = new PegTables();
        for (int i = 1; i < lines.length; i++) {
            Matcher call = CALL.matcher(lines[i]);
            boolean read = call.matches();
            CHECKS.holds("this line is a call: " + lines[i], read);
            if (read) {
                dueAsSaid(x, lines[i], call);
            }
        }
        for (Method method : PegTables.class.getDeclaredMethods()) {
            if (Modifier.isPublic(method.getModifiers())) {
                CHECKS.holds("the example calls " + method.getName(), example.contains("x." + method.getName() + "("));
            }
        }
    }

    private static void dueAsSaid(PegTables x, String line, Matcher call) throws Exception {
        Object[] arguments = argumentsOf(call.group(2));
        Class<?>[] types = new Class<?>[arguments.length];
        for (int i = 0; i < types.length; i++) {
            types[i] = int.class;
        }
        Object answer = PegTables.class.getMethod(call.group(1), types).invoke(x, arguments);
        CHECKS.holds("an answer is told where there is one: " + line, (answer == null) == (call.group(3) == null));
        if (answer != null && call.group(3) != null) {
            CHECKS.due(line, (Integer) answer, Integer.parseInt(call.group(3)));
        }
    }

    private static Object[] argumentsOf(String list) throws Exception {
        if (list.isEmpty()) {
            return new Object[0];
        }
        String[] words = list.split(", ");
        Object[] values = new Object[words.length];
        for (int i = 0; i < words.length; i++) {
            String word = words[i];
            values[i] = word.startsWith("PegTables.")
                ? PegTables.class.getField(word.substring("PegTables.".length())).getInt(null)
                : Integer.parseInt(word);
        }
        return values;
    }
}
