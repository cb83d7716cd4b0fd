import java.lang.reflect.Executable;
import java.lang.reflect.Field;
import java.lang.reflect.Modifier;
import java.nio.file.Files;
import java.nio.file.Path;
import java.util.ArrayList;
import java.util.Arrays;
import java.util.List;
import java.util.Set;
import java.util.regex.Matcher;
import java.util.regex.Pattern;

/** Those rules of LANGUAGE.md that a look at the source and at the compiled classes can keep. */
public final class LanguageTest {
    /** The rules allow equals and toString of texts; the class has no texts, so any of them would be one too many. */
    private static final String[] FORBIDDEN_WORDS = {
        "throw", "throws", "try", "catch", "synchronized", "assert", "package", "protected", "equals", "hashCode", "toString"};
    private static final String[] FORBIDDEN_SIGNS = {"Exact", "->", "::", "static {"};
    private static final Set<String> IMPORTS = Set.of("java.util.ArrayList", "java.util.List", "java.util.Arrays");
    private static final Set<String> LIBRARY = Set.of(
            "Math.max", "Math.min", "Math.abs", "Math.floorDiv", "Math.floorMod", "Integer.bitCount", "Integer.compare",
            "System.arraycopy", "Arrays.fill", "Arrays.copyOf", "Arrays.copyOfRange");
    /** A constant that is not 0, and the two that are tested on the line that divides. */
    private static final Set<String> DIVISORS = Set.of("THOUSAND", "divisor", "reversalPeriod");

    public static void main(String[] args) throws Exception {
        String source = Files.readString(Path.of("src/main/java/DryingKiln.java"));
        String code = source.replaceAll("(?s)/\\*.*?\\*/", "").replaceAll("//[^\n]*", "");
        rule3Signs(source);
        rule4Library(code);
        rule6And10Words(code);
        rule7Divisors(code);
        rule11Methods(code);
        for (Class<?> c : classes()) {
            rule2Inside(c);
            rule5StaticFields(c);
            rule11Sizes(c);
        }
        Due.finish();
    }

    private static List<Class<?>> classes() {
        List<Class<?>> all = new ArrayList<>(Arrays.asList(DryingKiln.class.getDeclaredClasses()));
        Due.holds("at most 12 classes: " + all, all.size() < 12);
        all.add(DryingKiln.class);
        return all;
    }

    private static void rule2Inside(Class<?> c) {
        boolean isOuter = c == DryingKiln.class;
        Due.holds(c + " is static if it stands inside", isOuter || Modifier.isStatic(c.getModifiers()));
        Due.is(c + " has no classes deeper inside", isOuter ? 0 : c.getDeclaredClasses().length, 0);
    }

    private static void rule3Signs(String source) {
        for (int i = 0; i < source.length(); i++) {
            char sign = source.charAt(i);
            if (sign > 126 || sign < 32 && sign != '\n') {
                Due.is("the sign at " + i, sign, ' ');
            }
        }
    }

    private static void rule4Library(String code) {
        Matcher imported = Pattern.compile("import ([^;]*);").matcher(code);
        while (imported.find()) {
            Due.holds("import " + imported.group(1), IMPORTS.contains(imported.group(1)));
        }
        Due.holds("no library by its full name", !code.replaceAll("import [^;]*;", "").contains("java."));
        Matcher used = Pattern.compile("\\b[A-Z]\\w*\\.\\w+(?=\\()").matcher(code);
        while (used.find()) {
            Due.holds("the library's " + used.group(), LIBRARY.contains(used.group()));
        }
    }

    private static void rule5StaticFields(Class<?> c) {
        for (Field f : c.getDeclaredFields()) {
            if (Modifier.isStatic(f.getModifiers())) {
                Due.holds(f + " is a constant", Modifier.isFinal(f.getModifiers()) && f.getType() == int.class);
            }
        }
    }

    private static void rule6And10Words(String code) {
        for (String word : FORBIDDEN_WORDS) {
            Due.holds("the source is without " + word, !Pattern.compile("\\b" + word + "\\b").matcher(code).find());
        }
        for (String sign : FORBIDDEN_SIGNS) {
            Due.holds("the source is without " + sign, !code.contains(sign));
        }
    }

    private static void rule7Divisors(String code) {
        Matcher division = Pattern.compile("[/%]=?\\s*([\\w.(]+)").matcher(code);
        int divisions = 0;
        while (division.find()) {
            divisions++;
            Due.holds("the divisor " + division.group(1), DIVISORS.contains(division.group(1)));
        }
        Due.holds("divisions were found", divisions > 3);
        Due.holds("divisor is tested", code.contains("divisor == 0 ? 0 : dividend / divisor"));
        Due.holds("reversalPeriod is tested", code.contains("reversalPeriod > 0 && dryingHours % reversalPeriod"));
    }

    /** A method ends with a brace that stands as far to the right as its first line. */
    private static void rule11Methods(String code) {
        Matcher method = Pattern.compile("(?m)^( +)(\\w[^;={}]*)\\([^;{}]*\\) \\{\n((?:.*\n)*?)\\1\\}$").matcher(code);
        int methods = 0;
        while (method.find()) {
            methods++;
            long lines = method.group(3).lines().count();
            Due.holds(method.group(2) + " has at most 60 lines: " + lines, lines <= 60);
        }
        Due.holds("methods were found: " + methods, methods > 50);
    }

    private static void rule11Sizes(Class<?> c) {
        int fields = 0;
        for (Field f : c.getDeclaredFields()) {
            fields += Modifier.isStatic(f.getModifiers()) ? 0 : 1;
        }
        Due.holds(c + " has at most 20 fields: " + fields, fields <= 20);
        List<Executable> all = new ArrayList<>(Arrays.asList(c.getDeclaredMethods()));
        all.addAll(Arrays.asList(c.getDeclaredConstructors()));
        for (Executable e : all) {
            Due.holds(e + " has at most 7 parameters", e.getParameterCount() <= 7);
        }
    }
}
