import java.io.IOException;
import java.lang.reflect.Field;
import java.lang.reflect.Method;
import java.lang.reflect.Modifier;
import java.nio.file.Files;
import java.nio.file.Path;
import java.util.Arrays;
import java.util.List;
import java.util.regex.Matcher;
import java.util.regex.Pattern;

/** README.md: each example answers as it says, and the tables name each call and each constant. */
public final class ReadmeTest {
    private static final Pattern MAKING = Pattern.compile("TierStore store = new TierStore\\((-?\\d+), (-?\\d+)\\);");
    private static final Pattern CALL = Pattern.compile("store\\.(\\w+)\\(([^)]*)\\); +// ([A-Z_]+|-?\\d+)(:.*)?");
    private static final Pattern CONSTANT_ROW = Pattern.compile("\\| `([A-Z_]+)` \\| (-?\\d+) \\| .+ \\|");
    private static final Pattern CALL_ROW = Pattern.compile("\\| `(\\w+)\\(([^)]*)\\)` \\|.*\\| .+ \\|");

    private static final Check CHECK = new Check();

    public static void main(String[] args) throws IOException, ReflectiveOperationException {
        List<String> lines = Files.readAllLines(Path.of("README.md"));
        examplesAnswerAsTheySay(lines);
        constantsAreNamed(lines);
        callsAreNamed(lines);
        CHECK.end();
    }

    private static void examplesAnswerAsTheySay(List<String> lines) throws ReflectiveOperationException {
        boolean inExample = false;
        int answers = 0;
        TierStore store = null;
        for (int k = 0; k < lines.size(); k++) {
            String line = lines.get(k);
            CHECK.topic("README.md, line " + (k + 1));
            if (line.startsWith("```")) {
                inExample = line.equals("```java");
                store = null;
            } else if (inExample && store == null) {
                store = made(line);
            } else if (inExample) {
                answerIsAsSaid(store, line);
                answers++;
            }
        }
        CHECK.topic("README.md");
        CHECK.holds("there are examples", answers > 0);
    }

    private static TierStore made(String line) {
        Matcher making = MAKING.matcher(line);
        boolean understood = making.matches();
        CHECK.holds("an example begins with an object: " + line, understood);
        return understood ? new TierStore(Integer.parseInt(making.group(1)), Integer.parseInt(making.group(2))) : null;
    }

    private static void answerIsAsSaid(TierStore store, String line) throws ReflectiveOperationException {
        Matcher call = CALL.matcher(line);
        boolean understood = call.matches();
        CHECK.holds("a call with its answer: " + line, understood);
        if (!understood) {
            return;
        }
        Object[] numbers = numbers(call.group(2));
        Class<?>[] types = new Class<?>[numbers.length];
        Arrays.fill(types, int.class);
        Method method = TierStore.class.getMethod(call.group(1), types);
        CHECK.due(line.strip(), ((Number) method.invoke(store, numbers)).longValue(), said(call.group(3)));
    }

    private static Object[] numbers(String list) {
        if (list.isEmpty()) {
            return new Object[0];
        }
        return Arrays.stream(list.split(", ")).map(Integer::valueOf).toArray();
    }

    private static long said(String answer) throws ReflectiveOperationException {
        return Character.isLetter(answer.charAt(0)) ? TierStore.class.getField(answer).getLong(null)
            : Long.parseLong(answer);
    }

    private static void constantsAreNamed(List<String> lines) throws ReflectiveOperationException {
        CHECK.topic("README.md, the constants");
        for (Field field : TierStore.class.getFields()) {
            int rows = 0;
            for (String line : lines) {
                Matcher row = CONSTANT_ROW.matcher(line);
                if (row.matches() && row.group(1).equals(field.getName())) {
                    rows++;
                    CHECK.due(field.getName(), field.getLong(null), Long.parseLong(row.group(2)));
                }
            }
            CHECK.due("rows for " + field.getName(), rows, 1);
        }
    }

    private static void callsAreNamed(List<String> lines) {
        CHECK.topic("README.md, the calls");
        for (Method method : TierStore.class.getDeclaredMethods()) {
            if (!Modifier.isPublic(method.getModifiers())) {
                continue;
            }
            int rows = 0;
            for (String line : lines) {
                Matcher row = CALL_ROW.matcher(line);
                if (row.matches() && row.group(1).equals(method.getName())) {
                    rows++;
                    CHECK.due("numbers of " + line, method.getParameterCount(), parameters(row.group(2)));
                }
            }
            CHECK.due("rows for " + method.getName(), rows, 1);
        }
    }

    private static int parameters(String list) {
        return list.isEmpty() ? 0 : list.split(", ").length;
    }
}
