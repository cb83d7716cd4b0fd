import java.lang.reflect.Field;
import java.lang.reflect.Method;
import java.lang.reflect.Modifier;
import java.util.Set;
import java.util.TreeSet;

/** The public face of the document, and nothing beside it (rule 1 of LANGUAGE.md). */
public final class FaceTest {
    private static final String[] METHODS = {
        "addBoard(int,int)", "setLayer(int,int,int)", "layerMoisture(int,int)", "averageMoisture(int)", "strain(int)",
        "checkHour(int)", "wettestBoard()", "totalWater()", "sampleError(int)", "setDiffusion(int)", "setSurface(int)",
        "setCapacity(int)", "setStrainLimit(int)", "setHumidity(int)", "setFan(boolean)", "isFanReversed()",
        "setReversalPeriod(int)", "dry(int)", "rest(int)", "hour()", "evaporated()", "airMoisture(int)",
        "addStage(int,int)", "clearStages()", "currentStage()", "runSchedule(int,int)", "plannedHours(int)",
        "plannedInlet(int,int)"};

    public static void main(String[] args) {
        theFace();
        Due.finish();
    }

    private static void theFace() {
        Class<?> c = DryingKiln.class;
        Due.is("the class is public and final", c.getModifiers(), Modifier.PUBLIC | Modifier.FINAL);
        Due.is("constructors", c.getDeclaredConstructors().length, 1);
        Due.is("public constructors without arguments", c.getConstructors()[0].getParameterCount(), 0);
        Set<String> wanted = new TreeSet<>(Set.of(METHODS));
        for (Method m : c.getDeclaredMethods()) {
            if (m.isSynthetic()) {
                continue;
            }
            StringBuilder s = new StringBuilder(m.getName()).append('(');
            for (Class<?> p : m.getParameterTypes()) {
                s.append(s.charAt(s.length() - 1) == '(' ? "" : ",").append(p.getName());
            }
            s.append(')');
            if (Modifier.isPrivate(m.getModifiers())) {
                for (String name : METHODS) {
                    Due.holds("private " + s + " bears a name of its own", !name.startsWith(m.getName() + "("));
                }
            } else {
                Due.holds(s + " belongs to the face", wanted.remove(s.toString()));
                Due.is(s + " is public alone", m.getModifiers(), Modifier.PUBLIC);
                Due.holds(s + " answers an int", m.getReturnType() == int.class);
            }
        }
        Due.holds("all of these are there: " + wanted, wanted.isEmpty());
        int constants = 0;
        for (Field f : c.getDeclaredFields()) {
            if (!Modifier.isPrivate(f.getModifiers())) {
                constants++;
                Due.is(f + " is a constant", f.getModifiers(), Modifier.PUBLIC | Modifier.STATIC | Modifier.FINAL);
            }
        }
        Due.is("public constants", constants, 6);
        for (Class<?> inside : c.getDeclaredClasses()) {
            Due.holds(inside + " is static", Modifier.isStatic(inside.getModifiers()));
            Due.holds(inside + " is not public", !Modifier.isPublic(inside.getModifiers()));
        }
    }
}
