import java.io.IOException;
import java.lang.reflect.Method;
import java.lang.reflect.Modifier;
import java.nio.file.Files;
import java.nio.file.Path;
import java.util.List;
import java.util.regex.Matcher;
import java.util.regex.Pattern;

/** What README.md says: each line of its example, each call's line in its tables, each constant. */
public final class ReadmeRuns {
    private static final Pattern FEED = Pattern.compile("for \\(char sign : \"(.*)\"\\.toCharArray\\(\\)\\) x\\.feed\\(sign\\);");
    private static final Pattern CALL = Pattern.compile("x\\.(\\w+)\\(([-\\d, ]*)\\); +// (-?\\d+): .+");
    private static final int FEWEST_CALLS = 15;
    private static int wrong = 0;

    private ReadmeRuns() {
    }

    private static void so(boolean is, String otherwise) {
        if (!is) {
            wrong++;
            System.out.println(otherwise);
        }
    }

    public static void main(String[] args) throws IOException, ReflectiveOperationException {
        List<String> lines = Files.readAllLines(Path.of("README.md"));
        example(lines);
        calls(lines);
        constants(lines);
        System.out.println(wrong == 0 ? "README.md is right" : wrong + " of README.md are not so");
        if (wrong != 0) {
            System.exit(1);
        }
    }

    private static void example(List<String> lines) throws ReflectiveOperationException {
        AheadOfPerson x = new AheadOfPerson();
        int from = lines.indexOf("```java") + 1;
        int to = from + lines.subList(from, lines.size()).indexOf("```");
        so(lines.get(from).equals("AheadOfPerson x = new AheadOfPerson();"), "the example's first line");
        int calls = 0;
        for (String line : lines.subList(from + 1, to)) {
            Matcher feed = FEED.matcher(line);
            Matcher call = CALL.matcher(line);
            if (feed.matches()) {
                for (char sign : feed.group(1).toCharArray()) {
                    x.feed(sign);
                }
            } else if (call.matches()) {
                long got = answer(x, call.group(1), call.group(2));
                so(got == Long.parseLong(call.group(3)), line + " answered " + got);
                calls++;
            } else {
                so(false, "no call: " + line);
            }
        }
        so(calls >= FEWEST_CALLS, "just " + calls + " calls in the example");
    }

    private static long answer(AheadOfPerson x, String name, String given) throws ReflectiveOperationException {
        String[] numbers = given.isEmpty() ? new String[0] : given.split(", ");
        Class<?>[] types = new Class<?>[numbers.length];
        Object[] values = new Object[numbers.length];
        for (int i = 0; i < numbers.length; i++) {
            types[i] = int.class;
            values[i] = Integer.valueOf(numbers[i]);
        }
        return ((Number) AheadOfPerson.class.getMethod(name, types).invoke(x, values)).longValue();
    }

    /** Each call has one line in the tables, with as many arguments as it takes. */
    private static void calls(List<String> lines) {
        for (Method method : AheadOfPerson.class.getDeclaredMethods()) {
            if (!Modifier.isPublic(method.getModifiers())) {
                continue;
            }
            int arguments = method.getParameterCount();
            String given = arguments == 0 ? "" : "\\w+" + ", \\w+".repeat(arguments - 1);
            Pattern row = Pattern.compile("\\| `" + method.getName() + "\\(" + given + "\\)` \\|.*\\|.*\\|");
            so(lines.stream().filter(line -> row.matcher(line).matches()).count() == 1, "the line of " + method.getName());
        }
    }

    private static void constants(List<String> lines) {
        int[] is = {AheadOfPerson.NONE, AheadOfPerson.BAD, AheadOfPerson.STATE, AheadOfPerson.FULL};
        String[] names = {"NONE", "BAD", "STATE", "FULL"};
        int last = -1;
        for (int i = 0; i < is.length; i++) {
            String row = "| `" + names[i] + "` | " + is[i] + " |";
            int at = 0;
            while (at < lines.size() && !lines.get(at).startsWith(row)) {
                at++;
            }
            so(at < lines.size(), "the constant " + names[i]);
            so(at > last, names[i] + " stands before one that is told first");
            last = at;
        }
        boolean isLeast = AheadOfPerson.NO == Long.MIN_VALUE;
        so(isLeast && lines.stream().anyMatch(line -> line.startsWith("| `NO` | `Long.MIN_VALUE` |")), "the constant NO");
    }
}
