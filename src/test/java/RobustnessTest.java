import java.lang.management.ManagementFactory;
import java.util.Random;

/** No arguments make a call throw, calls that report errors change nothing, and a run makes few objects. */
public final class RobustnessTest {
    private static final int[] WILD = {
        Integer.MIN_VALUE, Integer.MIN_VALUE + 1, -1000006, -1000005, -2001, -2, -1, 0, 1, 2, 3, 5, 6, 8, 9, 10, 20, 48, 63,
        64, 200, 250, 299, 300, 301, 500, 900, 2000, 2001, 10000, Integer.MAX_VALUE - 1, Integer.MAX_VALUE};

    public static void main(String[] args) {
        nothingThrows();
        errorsChangeNothing();
        aRunMakesFewObjects();
        Due.finish();
    }

    private static int wild(Random random) {
        return WILD[random.nextInt(WILD.length)];
    }

    private static int call(DryingKiln x, int which, int a, int b, int c) {
        switch (which) {
            case 0: return x.addBoard(a, b);
            case 1: return x.setLayer(a, b, c);
            case 2: return x.layerMoisture(a, b);
            case 3: return x.averageMoisture(a);
            case 4: return x.strain(a);
            case 5: return x.checkHour(a);
            case 6: return x.wettestBoard();
            case 7: return x.totalWater();
            case 8: return x.sampleError(a);
            case 9: return x.setDiffusion(a);
            case 10: return x.setSurface(a);
            case 11: return x.setCapacity(a);
            case 12: return x.setStrainLimit(a);
            case 13: return x.setHumidity(a);
            case 14: return x.setFan(a > 0);
            case 15: return x.isFanReversed();
            case 16: return x.setReversalPeriod(a);
            case 17: return x.dry(a);
            case 18: return x.rest(a);
            case 19: return x.hour();
            case 20: return x.evaporated();
            case 21: return x.airMoisture(a);
            case 22: return x.addStage(a, b);
            case 23: return x.clearStages();
            case 24: return x.currentStage();
            case 25: return x.runSchedule(a, b);
            case 26: return x.plannedHours(a);
            default: return x.plannedInlet(a, b);
        }
    }

    private static void nothingThrows() {
        Random random = new Random(7);
        int thrown = 0;
        for (int run = 0; run < 100; run++) {
            DryingKiln x = new DryingKiln();
            for (int i = 0; i < 512; i++) {
                try {
                    call(x, random.nextInt(28), wild(random), wild(random), wild(random));
                } catch (RuntimeException | Error e) {
                    thrown++;
                    System.out.println("run " + run + ", call " + i + ": " + e);
                }
            }
        }
        Due.is("calls that threw", thrown, 0);
    }

    private static boolean isChange(int which) {
        return which < 2 || which >= 9 && which <= 14 || which >= 16 && which <= 18 || which >= 22 && which <= 25 && which != 24;
    }

    /** Two kilns get the same wild calls, and one of them a last one that is refused or only reads. */
    private static void errorsChangeNothing() {
        int refused = 0;
        for (int run = 0; run < 3000; run++) {
            Random random = new Random(run);
            DryingKiln asked = new DryingKiln();
            DryingKiln spared = new DryingKiln();
            int calls = random.nextInt(240);
            for (int i = 0; i < calls; i++) {
                int which = random.nextInt(26);
                int a = wild(random);
                int b = wild(random);
                int c = wild(random);
                Due.is("the same call of both", call(asked, which, a, b, c), call(spared, which, a, b, c));
            }
            int which = random.nextInt(28);
            int answer = call(asked, which, wild(random), wild(random), wild(random));
            if (!isChange(which) || answer <= DryingKiln.NO_SUCH_BOARD) {
                refused++;
                Refusal.same("run " + run + ": method " + which + ", which answered " + answer + ",", asked, spared);
            }
        }
        Due.holds("many calls were refused: " + refused, refused > 1000);
    }

    private static void aRunMakesFewObjects() {
        com.sun.management.ThreadMXBean threads = (com.sun.management.ThreadMXBean) ManagementFactory.getThreadMXBean();
        DryingKiln x = new DryingKiln();
        for (int i = 0; i < 6; i++) {
            x.addBoard(9, 1500);
        }
        x.plannedHours(100);
        long before = threads.getCurrentThreadAllocatedBytes();
        int sum = 0;
        for (int i = 0; i < 100; i++) {
            sum += x.plannedHours(100) + x.plannedInlet(100, i) + x.dry(1) + x.rest(1) + x.runSchedule(10, 2);
        }
        long made = threads.getCurrentThreadAllocatedBytes() - before;
        System.out.println("500 calls made " + made + " bytes of objects (sum " + sum + ")");
        Due.holds("500 calls make hardly an object", made < 20000);
    }
}
