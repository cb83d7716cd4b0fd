import java.lang.reflect.Method;
import java.nio.file.Files;
import java.nio.file.Path;
import java.util.HashSet;
import java.util.Set;
import java.util.regex.Matcher;
import java.util.regex.Pattern;

/** The examples of README.md: every call there answers the number that begins the comment behind it. */
public final class ReadmeTest {
    private static final Pattern CALL = Pattern.compile("kiln\\.(\\w+)\\(([^)]*)\\); +// (-?\\d+)(,.*)?");
    private static final Pattern CONSTANT = Pattern.compile("\\| `(\\w+)` \\| (-\\d+) \\|.*");

    public static void main(String[] args) throws Exception {
        String[] lines = Files.readString(Path.of("README.md")).split("\n");
        theCalls(lines);
        theConstants(lines);
        everyMethodIsNamed(String.join("\n", lines));
        Due.finish();
    }

    private static void theCalls(String[] lines) throws Exception {
        DryingKiln kiln = null;
        Set<DryingKiln> kilns = new HashSet<>();
        int calls = 0;
        for (String line : lines) {
            if (line.equals("DryingKiln kiln = new DryingKiln();")) {
                kiln = new DryingKiln();
                kilns.add(kiln);
            } else if (line.startsWith("kiln.")) {
                Matcher call = CALL.matcher(line);
                Due.holds("a call with its answer: " + line, call.matches());
                Due.is(line, answer(kiln, call.group(1), call.group(2)), Integer.parseInt(call.group(3)));
                calls++;
            }
        }
        Due.is("examples in README.md", kilns.size(), 3);
        Due.holds("many calls in README.md: " + calls, calls >= 30);
    }

    /** All arguments of README.md are ints. */
    private static int answer(DryingKiln kiln, String name, String arguments) throws Exception {
        String[] texts = arguments.isEmpty() ? new String[0] : arguments.split(", ");
        Class<?>[] types = new Class<?>[texts.length];
        Object[] values = new Object[texts.length];
        for (int i = 0; i < texts.length; i++) {
            types[i] = int.class;
            values[i] = Integer.valueOf(texts[i]);
        }
        return (Integer) DryingKiln.class.getMethod(name, types).invoke(kiln, values);
    }

    private static void theConstants(String[] lines) throws Exception {
        int constants = 0;
        for (String line : lines) {
            Matcher constant = CONSTANT.matcher(line);
            if (constant.matches()) {
                Due.is(line, DryingKiln.class.getField(constant.group(1)).getInt(null), Integer.parseInt(constant.group(2)));
                constants++;
            }
        }
        Due.is("constants in README.md", constants, 6);
    }

    private static void everyMethodIsNamed(String readme) {
        for (Method m : DryingKiln.class.getMethods()) {
            if (m.getDeclaringClass() == DryingKiln.class) {
                Due.holds("README.md names " + m.getName(), readme.contains("`" + m.getName() + "`"));
            }
        }
    }
}
