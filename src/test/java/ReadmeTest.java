import java.lang.reflect.Method;
import java.lang.reflect.Modifier;
import java.nio.file.Files;
import java.nio.file.Path;
import java.util.Arrays;
import java.util.Set;
import java.util.TreeSet;
import java.util.regex.Matcher;
import java.util.regex.Pattern;

/** README.md's program answers what README.md says of it, and its program and its table tell of every call. */
public final class ReadmeTest {
    private static final Answers ANSWERS = new Answers();
    private static final Pattern CALL = Pattern.compile("x\\.(\\w+)\\(([-\\d, ]*)\\); *// (-?\\d+)(:.*)?");
    private static final Pattern ROW = Pattern.compile("(?m)^\\| `(\\w+)\\(([\\w, ]*)\\)` \\|");

    public static void main(String[] args) throws Exception {
        String text = Files.readString(Path.of("README.md"));
        Set<String> face = new TreeSet<>();
        for (Method m : StepRegisters.class.getDeclaredMethods()) {
            if (Modifier.isPublic(m.getModifiers())) {
                face.add(m.getName() + " " + m.getParameterCount());
            }
        }
        ANSWERS.sentence("README.md: the program");
        due("calls of the face", calls(program(text)), face);
        ANSWERS.sentence("README.md: the table");
        due("calls of the face", rows(text), face);
        ANSWERS.end();
    }

    private static void due(String what, Set<String> got, Set<String> want) {
        ANSWERS.due(what + " " + got, got.equals(want) ? 1 : 0, 1);
    }

    private static String program(String text) {
        int start = text.indexOf("```java\n");
        int end = text.indexOf("```\n", start + 1);
        ANSWERS.due("there is one", start >= 0 && end > start ? 1 : 0, 1);
        return start >= 0 && end > start ? text.substring(start, end) : "";
    }

    /** Makes the program's calls, one line each; answers which ones of the face they are. */
    private static Set<String> calls(String program) throws Exception {
        Set<String> made = new TreeSet<>();
        StepRegisters x = new StepRegisters();
        for (String line : program.split("\n")) {
            if (line.startsWith("```") || line.equals("StepRegisters x = new StepRegisters();")) {
                continue;
            }
            Matcher call = CALL.matcher(line);
            boolean fits = call.matches();
            ANSWERS.due("a call and its answer: " + line, fits ? 1 : 0, 1);
            if (fits) {
                int[] numbers = Arrays.stream(call.group(2).split(", *")).mapToInt(Integer::parseInt).toArray();
                ANSWERS.due(line, answer(x, call.group(1), numbers), Long.parseLong(call.group(3)));
                made.add(call.group(1) + " " + numbers.length);
            }
        }
        return made;
    }

    private static long answer(StepRegisters x, String name, int[] numbers) throws Exception {
        Class<?>[] types = new Class<?>[numbers.length];
        Arrays.fill(types, int.class);
        Object[] boxed = Arrays.stream(numbers).boxed().toArray();
        return ((Number) StepRegisters.class.getMethod(name, types).invoke(x, boxed)).longValue();
    }

    private static Set<String> rows(String text) {
        Set<String> told = new TreeSet<>();
        Matcher row = ROW.matcher(text);
        while (row.find()) {
            told.add(row.group(1) + " " + row.group(2).split(", ").length);
        }
        return told;
    }
}
