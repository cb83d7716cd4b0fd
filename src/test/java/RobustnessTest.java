import java.lang.management.ManagementFactory;
import java.util.Random;

/** No arguments make a call throw, calls that report errors change nothing, and a run makes few objects. */
public final class RobustnessTest {
    private static final int[] WILD = {
        Integer.MIN_VALUE, Integer.MIN_VALUE + 1, -1000006, -1000005, -2001, -2, -1, 0, 1, 2, 3, 5, 6, 8, 9, 10, 20, 48, 63,
        64, 200, 250, 299, 300, 301, 500, 900, 2000, 2001, 10000, Integer.MAX_VALUE - 1, Integer.MAX_VALUE};

    public static void main(String[] args) {
        nothingThrows();
        errorsChangeNothing();
        aRunMakesFewObjects();
        Due.finish();
    }

    private static int wild(Random random) {
        return WILD[random.nextInt(WILD.length)];
    }

    private static int call(DryingKiln x, int which, int a, int b, int c) {
        switch (which) {
            case 0: return x.addBoard(a, b);
            case 1: return x.setLayer(a, b, c);
            case 2: return x.layerMoisture(a, b);
            case 3: return x.averageMoisture(a);
            case 4: return x.strain(a);
            case 5: return x.checkHour(a);
            case 6: return x.wettestBoard();
            case 7: return x.totalWater();
            case 8: return x.sampleError(a);
            case 9: return x.setDiffusion(a);
            case 10: return x.setSurface(a);
            case 11: return x.setCapacity(a);
            case 12: return x.setStrainLimit(a);
            case 13: return x.setHumidity(a);
            case 14: return x.setFan(a > 0);
            case 15: return x.isFanReversed();
            case 16: return x.setReversalPeriod(a);
            case 17: return x.dry(a);
            case 18: return x.rest(a);
            case 19: return x.hour();
            case 20: return x.evaporated();
            case 21: return x.airMoisture(a);
            case 22: return x.addStage(a, b);
            case 23: return x.clearStages();
            case 24: return x.currentStage();
            case 25: return x.runSchedule(a, b);
            case 26: return x.plannedHours(a);
            default: return x.plannedInlet(a, b);
        }
    }

    private static void nothingThrows() {
        Random random = new Random(7);
        int thrown = 0;
        for (int run = 0; run < 100; run++) {
            DryingKiln x = new DryingKiln();
            for (int i = 0; i < 512; i++) {
                try {
                    call(x, random.nextInt(28), wild(random), wild(random), wild(random));
                } catch (RuntimeException | Error e) {
                    thrown++;
                    System.out.println("run " + run + ", call " + i + ": " + e);
                }
            }
        }
        Due.is("calls that threw", thrown, 0);
    }

    /** All that can be read of a kiln; the settings are read by setting them to what they are. */
    private static String picture(DryingKiln x) {
        StringBuilder s = new StringBuilder();
        for (int b = 0; b < 6; b++) {
            for (int i = 0; i < 9; i++) {
                s.append(x.layerMoisture(b, i)).append(' ');
            }
            s.append(x.checkHour(b)).append(' ').append(x.airMoisture(b)).append(' ');
        }
        int[] settings = {x.setDiffusion(1), x.setSurface(1), x.setCapacity(1), x.setStrainLimit(20), x.setHumidity(0), x.setReversalPeriod(0)};
        x.setDiffusion(settings[0]);
        x.setSurface(settings[1]);
        x.setCapacity(settings[2]);
        x.setStrainLimit(settings[3]);
        x.setHumidity(settings[4]);
        x.setReversalPeriod(settings[5]);
        for (int setting : settings) {
            s.append(setting).append(' ');
        }
        s.append(x.hour()).append(' ').append(x.evaporated()).append(' ').append(x.isFanReversed());
        return s.append(' ').append(x.currentStage()).toString();
    }

    private static void errorsChangeNothing() {
        Random random = new Random(11);
        for (int run = 0; run < 60; run++) {
            DryingKiln x = new DryingKiln();
            for (int i = 0; i < 512; i++) {
                int which = random.nextInt(28);
                String before = picture(x);
                int answer = call(x, which, wild(random), wild(random), wild(random));
                boolean changes = which < 2 || which >= 9 && which <= 14 || which >= 16 && which <= 18 || which >= 22 && which <= 25 && which != 24;
                if (!changes || answer <= -1000001) {
                    Due.holds("run " + run + ": method " + which + " answered " + answer + " and changed nothing", before.equals(picture(x)));
                }
            }
        }
    }

    private static void aRunMakesFewObjects() {
        com.sun.management.ThreadMXBean threads = (com.sun.management.ThreadMXBean) ManagementFactory.getThreadMXBean();
        DryingKiln x = new DryingKiln();
        for (int i = 0; i < 6; i++) {
            x.addBoard(9, 1500);
        }
        x.plannedHours(100);
        long before = threads.getCurrentThreadAllocatedBytes();
        int sum = 0;
        for (int i = 0; i < 100; i++) {
            sum += x.plannedHours(100) + x.plannedInlet(100, i) + x.dry(1) + x.rest(1) + x.runSchedule(10, 2);
        }
        long made = threads.getCurrentThreadAllocatedBytes() - before;
        System.out.println("500 calls made " + made + " bytes of objects (sum " + sum + ")");
        Due.holds("500 calls make hardly an object", made < 20000);
    }
}
