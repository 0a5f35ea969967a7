import java.io.IOException;
import java.lang.reflect.Field;
import java.lang.reflect.Method;
import java.lang.reflect.Modifier;
import java.nio.file.Files;
import java.nio.file.Path;
import java.util.ArrayList;
import java.util.List;
import java.util.regex.Matcher;
import java.util.regex.Pattern;

/** README.md tells the whole face, and its example answers what stands beside the calls. */
public final class ReadmeTest {
    private static final Pattern MADE = Pattern.compile("MeshedSpans x = new MeshedSpans\\((-?\\d+)\\);");
    private static final Pattern CALL = Pattern.compile("x\\.(\\w+)\\(([-\\d, ]*)\\); +// (-?\\w+)(:.*)?");

    private static final Check CHECK = new Check("ReadmeTest");

    public static void main(String[] args) throws IOException, ReflectiveOperationException {
        String text = Files.readString(Path.of("README.md"));
        constantsAreTold(text);
        callsAreTold(text);
        CHECK.due("README.md tells the limit of 512 calls", text.contains("at most 512 calls"), true);
        CHECK.due("README.md tells how to run the tests", text.contains("\n.ci/run\n"), true);
        example(text);
        CHECK.done();
    }

    private static void constantsAreTold(String text) throws ReflectiveOperationException {
        for (Field field : MeshedSpans.class.getFields()) {
            String row = "| `" + field.getName() + "` | " + field.get(null) + (field.getType() == long.class ? "L |" : " |");
            CHECK.due("README.md has the row " + row, text.contains(row), true);
        }
    }

    private static void callsAreTold(String text) {
        CHECK.due("README.md has a row for the constructor", text.contains("| `new MeshedSpans(int seed)` (1) |"), true);
        for (Method method : MeshedSpans.class.getDeclaredMethods()) {
            if (Modifier.isPublic(method.getModifiers())) {
                String row = "| `" + method.getReturnType() + " " + method.getName() + "(";
                CHECK.due("README.md has a row that begins " + row, text.contains(row), true);
            }
        }
    }

    private static void example(String text) throws ReflectiveOperationException {
        List<String> lines = exampleLines(text);
        Matcher made = MADE.matcher(lines.isEmpty() ? "" : lines.get(0));
        CHECK.due("the example begins by making an object", made.matches(), true);
        if (!made.matches()) {
            return;
        }
        MeshedSpans x = new MeshedSpans(Integer.parseInt(made.group(1)));
        CHECK.due("the example has calls", lines.size() > 1, true);
        for (String line : lines.subList(1, lines.size())) {
            Matcher call = CALL.matcher(line);
            CHECK.due("a call with its answer: " + line, call.matches(), true);
            if (call.matches()) {
                CHECK.due(line, answer(x, call.group(1), call.group(2)), due(call.group(3)));
            }
        }
    }

    private static List<String> exampleLines(String text) {
        String begin = "```java\n";
        int from = text.indexOf(begin);
        int to = from < 0 ? -1 : text.indexOf("```", from + begin.length());
        return to < 0 ? new ArrayList<>() : text.substring(from + begin.length(), to).lines().toList();
    }

    private static long answer(MeshedSpans x, String name, String arguments) throws ReflectiveOperationException {
        List<Object> given = new ArrayList<>();
        for (String argument : arguments.split(",")) {
            if (!argument.isBlank()) {
                given.add(Integer.valueOf(argument.trim()));
            }
        }
        Class<?>[] kinds = new Class<?>[given.size()];
        java.util.Arrays.fill(kinds, int.class);
        Object got = MeshedSpans.class.getMethod(name, kinds).invoke(x, given.toArray());
        return got instanceof Boolean b ? (b ? 1 : 0) : ((Number) got).longValue();
    }

    private static long due(String told) throws ReflectiveOperationException {
        return switch (told) {
            case "true" -> 1;
            case "false" -> 0;
            case "NONE", "WILD", "WILD_ACCESS" -> ((Number) MeshedSpans.class.getField(told).get(null)).longValue();
            default -> Long.parseLong(told);
        };
    }
}
