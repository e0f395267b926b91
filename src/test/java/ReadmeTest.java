import java.io.IOException;
import java.lang.reflect.Method;
import java.lang.reflect.Modifier;
import java.nio.file.Files;
import java.nio.file.Path;
import java.util.regex.Matcher;
import java.util.regex.Pattern;

/** The calls that README.md shows answer what it says there, and it tells of each call of the face. */
public final class ReadmeTest {
    private static final Pattern CALL = Pattern.compile("x\\.(\\w+)\\(([^)]*)\\);\\s*// (-?\\d+|'.').*");
    private static final Pattern STATEMENT = Pattern.compile("x\\..*");

    public static void main(String[] args) throws IOException, ReflectiveOperationException {
        Check check = new Check();
        String readme = Files.readString(Path.of("README.md"));
        calls(check, readme);
        for (Method method : PatternTrees.class.getDeclaredMethods()) {
            if (Modifier.isPublic(method.getModifiers())) {
                String name = method.getName();
                check.due(name + " is shown", readme.contains("\nx." + name + "(") ? 1 : 0, 1);
                check.due(name + " is told of", readme.contains("\n| `" + name + "(") ? 1 : 0, 1);
            }
        }
        check.due("all tests are told of", readme.contains("\n.ci/run\n") ? 1 : 0, 1);
        check.due("one test is told of", readme.contains("\njava -cp out ") ? 1 : 0, 1);
        check.end();
    }

    private static void calls(Check check, String readme) throws ReflectiveOperationException {
        PatternTrees x = new PatternTrees();
        for (String line : readme.split("\n")) {
            Matcher call = CALL.matcher(line);
            if (call.matches()) {
                check.due(line, answer(x, call.group(1), call.group(2)), said(call.group(3)));
            } else {
                check.due("the line has a call and its answer: " + line, STATEMENT.matcher(line).matches() ? 0 : 1, 1);
            }
        }
    }

    private static long said(String answer) {
        return answer.startsWith("'") ? answer.charAt(1) : Long.parseLong(answer);
    }

    private static long answer(PatternTrees x, String name, String arguments) throws ReflectiveOperationException {
        String[] words = arguments.isEmpty() ? new String[0] : arguments.split(", ");
        Class<?>[] types = new Class<?>[words.length];
        Object[] values = new Object[words.length];
        for (int i = 0; i < words.length; i++) {
            types[i] = int.class;
            values[i] = Long.decode(words[i]).intValue();
        }
        return (Integer) PatternTrees.class.getMethod(name, types).invoke(x, values);
    }
}
