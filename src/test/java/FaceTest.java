import java.lang.reflect.Field;
import java.lang.reflect.Method;
import java.lang.reflect.Modifier;
import java.nio.file.Files;
import java.nio.file.Path;
import java.util.Set;
import java.util.TreeSet;

/** The public face of the document, and those rules of LANGUAGE.md that a look at the source can keep. */
public final class FaceTest {
    private static final String[] METHODS = {
        "addBoard(int,int)", "setLayer(int,int,int)", "layerMoisture(int,int)", "averageMoisture(int)", "strain(int)",
        "checkHour(int)", "wettestBoard()", "totalWater()", "sampleError(int)", "setDiffusion(int)", "setSurface(int)",
        "setCapacity(int)", "setStrainLimit(int)", "setHumidity(int)", "setFan(boolean)", "isFanReversed()",
        "setReversalPeriod(int)", "dry(int)", "rest(int)", "hour()", "evaporated()", "airMoisture(int)",
        "addStage(int,int)", "clearStages()", "currentStage()", "runSchedule(int,int)", "plannedHours(int)",
        "plannedInlet(int,int)"};
    private static final String[] FORBIDDEN_WORDS = {
        "throw", "throws", "try", "catch", "synchronized", "assert", "package", "protected", "Exact", "Random", "Thread",
        "System.out", "System.nanoTime", "System.currentTimeMillis", "->", "::", "HashMap", "equals", "hashCode", "toString"};

    public static void main(String[] args) throws Exception {
        theFace();
        theSource(Files.readString(Path.of("src/main/java/DryingKiln.java")));
        Due.finish();
    }

    private static void theFace() {
        Class<?> c = DryingKiln.class;
        Due.is("the class is public and final", c.getModifiers(), Modifier.PUBLIC | Modifier.FINAL);
        Due.is("constructors", c.getDeclaredConstructors().length, 1);
        Due.is("public constructors without arguments", c.getConstructors()[0].getParameterCount(), 0);
        Set<String> wanted = new TreeSet<>(Set.of(METHODS));
        for (Method m : c.getDeclaredMethods()) {
            if (m.isSynthetic()) {
                continue;
            }
            StringBuilder s = new StringBuilder(m.getName()).append('(');
            for (Class<?> p : m.getParameterTypes()) {
                s.append(s.charAt(s.length() - 1) == '(' ? "" : ",").append(p.getName());
            }
            s.append(')');
            if (Modifier.isPrivate(m.getModifiers())) {
                for (String name : METHODS) {
                    Due.holds("private " + s + " bears a name of its own", !name.startsWith(m.getName() + "("));
                }
            } else {
                Due.holds(s + " belongs to the face", wanted.remove(s.toString()));
                Due.is(s + " is public alone", m.getModifiers(), Modifier.PUBLIC);
                Due.holds(s + " answers an int", m.getReturnType() == int.class);
            }
        }
        Due.holds("all of these are there: " + wanted, wanted.isEmpty());
        int constants = 0;
        for (Field f : c.getDeclaredFields()) {
            if (!Modifier.isPrivate(f.getModifiers())) {
                constants++;
                Due.is(f + " is a constant", f.getModifiers(), Modifier.PUBLIC | Modifier.STATIC | Modifier.FINAL);
            }
            Due.holds(f + " is no changing static state", !Modifier.isStatic(f.getModifiers()) || Modifier.isFinal(f.getModifiers()));
        }
        Due.is("public constants", constants, 6);
        for (Class<?> inside : c.getDeclaredClasses()) {
            Due.holds(inside + " is static", Modifier.isStatic(inside.getModifiers()));
            Due.holds(inside + " is not public", !Modifier.isPublic(inside.getModifiers()));
            Due.holds(inside + " has at most 20 fields", inside.getDeclaredFields().length <= 20);
        }
    }

    private static void theSource(String source) {
        String code = source.replaceAll("(?s)/\\*.*?\\*/", "").replaceAll("//[^\n]*", "");
        for (String word : FORBIDDEN_WORDS) {
            boolean isWord = Character.isLetter(word.charAt(0)) && !word.equals("Exact");
            boolean found = isWord
                    ? code.matches("(?s).*\\b" + word.replace(".", "\\.") + "\\b.*")
                    : code.contains(word);
            Due.holds("the source is without " + word, !found);
        }
        for (int i = 0; i < source.length(); i++) {
            char sign = source.charAt(i);
            if (sign > 126 || sign < 32 && sign != '\n') {
                Due.is("the sign at " + i, sign, ' ');
            }
        }
    }
}
