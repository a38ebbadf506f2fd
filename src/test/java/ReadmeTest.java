import java.io.IOException;
import java.lang.reflect.Field;
import java.lang.reflect.Method;
import java.lang.reflect.Modifier;
import java.nio.file.Files;
import java.nio.file.Path;
import java.util.Arrays;
import java.util.Set;
import java.util.TreeSet;
import java.util.regex.Matcher;
import java.util.regex.Pattern;

/** What README.md shows as answers is what the class answers; it is looked for in the folder the test is run in. */
public final class ReadmeTest {
    private static final String NAME = "SemiPartEdf cores = new SemiPartEdf";
    private static final Pattern MAKING = Pattern.compile(Pattern.quote(NAME) + "\\((-?\\d+)\\);");
    private static final Pattern CALL = Pattern.compile("cores\\.(\\w+)\\(([-\\d, ]+)\\)\\)?; *// (-?\\d+|[A-Z_]+)(:.*)?");
    private static final Pattern CONSTANT_ROW = Pattern.compile("\\| `([A-Z_]+)` \\| (-?\\d+) \\| .*");
    private static final Pattern CALL_ROW = Pattern.compile("\\| `(\\w+)\\(([\\w, ]+)\\)` \\| .*");

    private static final Set<String> CALLED = new TreeSet<>();
    private static final Set<String> ANSWERED = new TreeSet<>();
    private static final Set<String> CONSTANT_ROWS = new TreeSet<>();
    private static final Set<String> CALL_ROWS = new TreeSet<>();

    public static void main(String[] args) throws IOException, ReflectiveOperationException {
        String readme = Files.readString(Path.of("README.md"));
        runShownCalls(readme);
        readTables(readme);
        nothingIsLeftOut();
        Due.holds("README.md says for how many calls an object is good", readme.contains("good for 512 calls"));
        Due.end();
    }

    private static void runShownCalls(String readme) throws ReflectiveOperationException {
        SemiPartEdf cores = null;
        boolean inJava = false;
        for (String line : readme.split("\n")) {
            if (line.startsWith("```")) {
                inJava = line.equals("```java");
                cores = null;
            } else if (inJava && line.contains(NAME)) {
                cores = make(line);
            } else if (inJava && line.contains("cores.")) {
                runShownCall(cores, line);
            }
        }
    }

    private static SemiPartEdf make(String line) {
        Matcher making = MAKING.matcher(line);
        boolean readable = making.find();
        Due.holds("a making that can be tested, '" + line + "',", readable);
        return readable ? new SemiPartEdf(Integer.parseInt(making.group(1))) : null;
    }

    private static void runShownCall(SemiPartEdf cores, String line) throws ReflectiveOperationException {
        Matcher call = CALL.matcher(line);
        boolean readable = call.find() && call.end() == line.length() && cores != null;
        Due.holds("a call on an object that can be tested, '" + line + "',", readable);
        if (readable) {
            CALLED.add(call.group(1));
            ANSWERED.add(call.group(3));
            int answer = call(cores, call.group(1), call.group(2));
            Due.is("README.md's '" + line.strip() + "'", answer, shown(call.group(3)));
        }
    }

    private static int call(SemiPartEdf cores, String name, String numbers) throws ReflectiveOperationException {
        Object[] arguments = Arrays.stream(numbers.split(", ")).map(Integer::valueOf).toArray();
        Class<?>[] ints = new Class<?>[arguments.length];
        Arrays.fill(ints, int.class);
        return (int) SemiPartEdf.class.getMethod(name, ints).invoke(cores, arguments);
    }

    private static int shown(String answer) throws ReflectiveOperationException {
        return Character.isLetter(answer.charAt(0))
            ? SemiPartEdf.class.getField(answer).getInt(null) : Integer.parseInt(answer);
    }

    private static void readTables(String readme) throws ReflectiveOperationException {
        for (String line : readme.split("\n")) {
            Matcher constant = CONSTANT_ROW.matcher(line);
            Matcher call = CALL_ROW.matcher(line);
            if (constant.matches()) {
                CONSTANT_ROWS.add(constant.group(1));
                Due.is("README.md's " + constant.group(1), shown(constant.group(1)), Integer.parseInt(constant.group(2)));
            } else if (call.matches()) {
                CALL_ROWS.add(call.group(1) + "/" + call.group(2).split(", ").length);
            }
        }
    }

    private static void nothingIsLeftOut() {
        for (Method method : SemiPartEdf.class.getDeclaredMethods()) {
            if (Modifier.isPublic(method.getModifiers())) {
                String name = method.getName();
                Due.holds("README.md shows a call of " + name, CALLED.contains(name));
                Due.holds("README.md says what " + name + " is for",
                    CALL_ROWS.contains(name + "/" + method.getParameterCount()));
            }
        }
        for (Field constant : SemiPartEdf.class.getFields()) {
            Due.holds("README.md says what " + constant.getName() + " means", CONSTANT_ROWS.contains(constant.getName()));
            Due.holds("README.md shows an answer " + constant.getName(), ANSWERED.contains(constant.getName()));
        }
    }
}
