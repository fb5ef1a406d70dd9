import java.io.IOException;
import java.lang.reflect.Method;
import java.nio.file.Files;
import java.nio.file.Path;
import java.util.Set;
import java.util.TreeSet;
import java.util.regex.Matcher;
import java.util.regex.Pattern;

/** The run of calls in README.md has the answers that stand there, and each call is told of. */
public final class ReadmeTest {
    private static final Checks checks = new Checks();
    private static final Pattern TEXT = Pattern.compile("type\\(s, \"(.*)\"\\);");
    private static final Pattern CALL = Pattern.compile("s\\.(\\w+)\\(([^)]*)\\); +// ('.'|-?\\w+)(:.*)?");
    private static final Pattern ROW = Pattern.compile("\\| `(\\w+)\\(.*");

    public static void main(String[] args) throws IOException, ReflectiveOperationException {
        String readme = Files.readString(Path.of("README.md"));
        int begin = readme.indexOf("BoundedSchemes s = new BoundedSchemes();");
        int end = readme.indexOf("```", begin);
        checks.due("README.md has a run of calls", begin >= 0 && end > begin, true);
        checks.due("calls in it", play(readme.substring(begin, end)) >= 20, true);
        tellsOfEachCall(readme);
        checks.end();
    }

    private static int play(String run) throws ReflectiveOperationException {
        BoundedSchemes schemes = new BoundedSchemes();
        int calls = 0;
        for (String line : run.lines().skip(1).toList()) {
            Matcher text = TEXT.matcher(line);
            Matcher call = CALL.matcher(line);
            if (text.matches()) {
                Checks.type(schemes, text.group(1).replace("\\\\", "\\"));
            } else if (call.matches()) {
                checks.due(line, answer(schemes, call.group(1), call.group(2)), told(call.group(3)));
                calls++;
            } else {
                checks.due("a line that is no call: " + line, line.isEmpty(), true);
            }
        }
        return calls;
    }

    private static String answer(BoundedSchemes schemes, String name, String arguments)
        throws ReflectiveOperationException {
        String[] written = arguments.isEmpty() ? new String[0] : arguments.split(", ");
        Object[] values = new Object[written.length];
        Class<?>[] types = new Class<?>[written.length];
        for (int i = 0; i < written.length; i++) {
            values[i] = Integer.valueOf(written[i]);
            types[i] = int.class;
        }
        Method method = BoundedSchemes.class.getMethod(name, types);
        return String.valueOf(method.invoke(schemes, values));
    }

    private static String told(String answer) {
        if (answer.charAt(0) == '\'') {
            return String.valueOf((int) answer.charAt(1));
        }
        return answer.equals("NONE") ? "-1" : answer.equals("BAD") ? "-2" : answer.equals("FULL") ? "-3" : answer;
    }

    private static void tellsOfEachCall(String readme) {
        Set<String> rows = new TreeSet<>();
        for (String line : readme.lines().toList()) {
            Matcher row = ROW.matcher(line);
            if (row.matches()) {
                rows.add(row.group(1));
            }
        }
        Set<String> face = new TreeSet<>();
        for (Method method : BoundedSchemes.class.getDeclaredMethods()) {
            if (java.lang.reflect.Modifier.isPublic(method.getModifiers())) {
                face.add(method.getName());
            }
        }
        checks.due("the calls that README.md tells of", rows.toString(), face.toString());
    }
}
