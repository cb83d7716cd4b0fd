/** Promises 11 to 18: the settings. */
public final class SettingsTest {
    private static final int LEAST = Integer.MIN_VALUE;
    private static final int MOST = Integer.MAX_VALUE;

    public static void main(String[] args) {
        promises11To18Ranges();
        promise11Diffusion();
        promise12Surface();
        promise13Capacity();
        promise14StrainLimit();
        promise15Humidity();
        promises16And17Fan();
        promise18ReversalPeriod();
        Due.finish();
    }

    private static int set(DryingKiln x, int promise, int value) {
        switch (promise) {
            case 11: return x.setDiffusion(value);
            case 12: return x.setSurface(value);
            case 13: return x.setCapacity(value);
            case 14: return x.setStrainLimit(value);
            case 15: return x.setHumidity(value);
            default: return x.setReversalPeriod(value);
        }
    }

    private static void promises11To18Ranges() {
        // promise, initial value, least, greatest
        int[][] ranges = {{11, 100, 1, 250}, {12, 200, 1, 500}, {13, 50, 1, 10000}, {14, 200, 20, 900}, {15, 120, 0, 300}, {18, 0, 0, 48}};
        for (int[] r : ranges) {
            DryingKiln x = new DryingKiln();
            String name = "setting of promise " + r[0] + ": ";
            Due.is(name + "least, after the initial value", set(x, r[0], r[2]), r[1]);
            Due.is(name + "greatest", set(x, r[0], r[3]), r[2]);
            for (int bad : new int[] {r[2] - 1, r[3] + 1, -1, LEAST, MOST}) {
                Due.is(name + bad, set(x, r[0], bad), Due.BAD_VALUE);
            }
            Due.is(name + "the bad values changed nothing", set(x, r[0], r[2] + 1), r[3]);
            Due.is(name + "one above the least was taken", set(x, r[0], r[3]), r[2] + 1);
        }
    }

    private static void promise11Diffusion() {
        DryingKiln x = new DryingKiln();
        x.addBoard(3, 0);
        x.setLayer(0, 1, 1000);
        x.setDiffusion(250);
        x.rest(1);
        Due.is("diffusion 250: the middle", x.layerMoisture(0, 1), 500);
        Due.is("diffusion 250: the top", x.layerMoisture(0, 0), 250);
        x.setDiffusion(1);
        x.rest(1);
        Due.is("diffusion 1: a difference of 250 does not flow", x.layerMoisture(0, 1), 500);
    }

    private static void promise12Surface() {
        DryingKiln x = new DryingKiln();
        x.addBoard(3, 1000);
        x.setHumidity(0);
        x.setSurface(500);
        Due.is("surface 500: dry(1)", x.dry(1), 1000);
        x.setSurface(1);
        Due.is("surface 1: a difference of 500 does not flow", x.dry(1), 0);
        x.setSurface(2);
        x.setLayer(0, 0, 999);
        x.setLayer(0, 2, 1000);
        Due.is("surface 2: 1998 and 2000 thousandths, rounded toward zero", x.dry(1), 3);
    }

    private static void promise13Capacity() {
        int[][] capacityAndAir = {{1, 120 + 352}, {50, 120 + 7}, {352, 121}, {353, 120}, {10000, 120}};
        for (int[] c : capacityAndAir) {
            DryingKiln x = new DryingKiln();
            x.addBoard(3, 1000);
            x.addBoard(3, 1000);
            x.setCapacity(c[0]);
            x.dry(1);
            Due.is("capacity " + c[0] + ": airMoisture(1)", x.airMoisture(1), c[1]);
        }
    }

    private static void promise14StrainLimit() {
        DryingKiln x = new DryingKiln();
        x.addBoard(3, 0);
        x.addBoard(3, 0);
        x.setDiffusion(1);
        x.setLayer(0, 1, 20);
        x.setLayer(1, 1, 901);
        x.setStrainLimit(900);
        Due.is("limit 900: rest(1)", x.rest(1), 1);
        Due.is("limit 900: checkHour(1)", x.checkHour(1), 1);
        x.setStrainLimit(20);
        Due.is("setStrainLimit records no check", x.checkHour(0), Due.NONE);
        Due.is("limit 20: rest(1)", x.rest(1), 0);
        x.setLayer(0, 1, 21);
        Due.is("limit 20: rest(1) with 21", x.rest(1), 1);
        x.setStrainLimit(900);
        Due.is("checks stay", x.checkHour(0), 3);
        Due.is("checks of before stay", x.checkHour(1), 1);
    }

    private static void promise15Humidity() {
        DryingKiln x = new DryingKiln();
        x.addBoard(3, 100);
        x.setHumidity(300);
        Due.is("moist air: dry(1)", x.dry(1), -80);
        Due.is("moist air: airMoisture(0)", x.airMoisture(0), 300);
        Due.is("moist air: the top gains", x.layerMoisture(0, 0), 140);
        x.setHumidity(0);
        Due.is("dry air: dry(1)", x.dry(1), 56);
        Due.is("dry air: airMoisture(0)", x.airMoisture(0), 0);
    }

    private static void promises16And17Fan() {
        DryingKiln x = new DryingKiln();
        Due.is("setFan(false) at first", x.setFan(false), 0);
        Due.is("isFanReversed() at first", x.isFanReversed(), 0);
        Due.is("setFan(true)", x.setFan(true), 1);
        Due.is("isFanReversed()", x.isFanReversed(), 1);
        Due.is("setFan(true) again", x.setFan(true), 0);
        x.addBoard(3, 620);
        x.addBoard(3, 620);
        x.addBoard(3, 620);
        x.dry(1);
        Due.is("reversed: the air meets board 2 first", x.airMoisture(2), 120);
        Due.is("reversed: then board 1", x.airMoisture(1), 124);
        Due.is("reversed: then board 0", x.airMoisture(0), 127);
        Due.is("setFan(false)", x.setFan(false), 1);
        Due.is("isFanReversed() in the end", x.isFanReversed(), 0);
        x.dry(1);
        Due.is("forward: the air meets board 0 first", x.airMoisture(0), 120);
        Due.is("without a period the fan stays", x.isFanReversed(), 0);
    }

    private static void promise18ReversalPeriod() {
        DryingKiln x = new DryingKiln();
        x.setReversalPeriod(48);
        x.dry(47);
        Due.is("47 hours of 48", x.isFanReversed(), 0);
        x.rest(10);
        Due.is("rest hours do not count", x.isFanReversed(), 0);
        x.dry(1);
        Due.is("48 drying hours, without boards", x.isFanReversed(), 1);
        x.setReversalPeriod(7);
        x.dry(1);
        Due.is("49 drying hours: the counter is not reset", x.isFanReversed(), 0);
        x.setFan(true);
        x.setReversalPeriod(0);
        x.dry(200);
        Due.is("period 0: 249 drying hours", x.isFanReversed(), 1);
        x.setReversalPeriod(25);
        Due.is("setReversalPeriod does not turn the fan", x.isFanReversed(), 1);
        x.dry(1);
        Due.is("250 drying hours, which 25 divides", x.isFanReversed(), 0);
        x.setReversalPeriod(1);
        x.dry(1);
        Due.is("period 1 turns every hour", x.isFanReversed(), 1);
        x.addBoard(3, 500);
        x.runSchedule(0, 1);
        Due.is("a scheduled hour is a drying hour", x.isFanReversed(), 0);
        x.plannedHours(100);
        Due.is("a planned hour is none", x.isFanReversed(), 0);
    }
}
