/** Promises 19 to 23: drying and rest hours. */
public final class RunningTest {
    private static final int LEAST = Integer.MIN_VALUE;
    private static final int MOST = Integer.MAX_VALUE;

    public static void main(String[] args) {
        promise19DryFlows();
        promise19DryAirStream();
        promise19DryHours();
        promise20Rest();
        promise21Hour();
        promise22Evaporated();
        promise23AirMoisture();
        Due.finish();
    }

    private static DryingKiln withLayers(int... moistures) {
        DryingKiln x = new DryingKiln();
        x.addBoard(moistures.length, 0);
        for (int i = 0; i < moistures.length; i++) {
            x.setLayer(0, i, moistures[i]);
        }
        return x;
    }

    private static void layersAre(String when, DryingKiln x, int board, int... moistures) {
        for (int i = 0; i < moistures.length; i++) {
            Due.is(when + ": layer " + i, x.layerMoisture(board, i), moistures[i]);
        }
    }

    private static void promise19DryFlows() {
        DryingKiln x = withLayers(500, 900, 100, 40);
        // Top (500 - 120) / 5 = 76, bottom -80 / 5 = -16; inside -40, 80, 6.
        Due.is("dry(1) of uneven layers", x.dry(1), 60);
        layersAre("dry(1) of uneven layers", x, 0, 500 - 76 + 40, 900 - 40 - 80, 100 + 80 - 6, 40 + 6 + 16);
        DryingKiln y = withLayers(124, 115, 129, 116);
        // 4 * 200 and -4 * 200 are less than 1000; -9, -14 and 13 tenths round toward zero.
        Due.is("dry(1) rounds toward zero", y.dry(1), 0);
        layersAre("dry(1) rounds toward zero", y, 0, 124, 115 + 1, 129 - 1 - 1, 116 + 1);
        DryingKiln z = withLayers(2000, 0, 2000);
        z.setSurface(500);
        z.setDiffusion(250);
        z.setHumidity(0);
        Due.is("dry(1) at the greatest flows", z.dry(1), 2000);
        layersAre("dry(1) at the greatest flows", z, 0, 500, 1000, 500);
    }

    private static void promise19DryAirStream() {
        DryingKiln x = new DryingKiln();
        x.addBoard(3, 0);
        x.addBoard(3, 1000);
        x.setCapacity(1);
        x.setHumidity(30);
        // Board 0 takes up 2 * 6; the air at board 1 is 30 - 12.
        Due.is("a dry board dries the air", x.dry(1), -12 + 2 * 196);
        Due.is("airMoisture(1)", x.airMoisture(1), 18);
        DryingKiln y = new DryingKiln();
        y.addBoard(9, 0);
        y.addBoard(9, 0);
        y.addBoard(9, 0);
        y.addBoard(3, 200);
        y.setCapacity(1);
        y.setSurface(500);
        y.setHumidity(15);
        // 15 - 2 * 7 = 1 at board 1, which takes up nothing, as 500 thousandths do.
        y.dry(1);
        Due.is("airMoisture(3) behind dry boards", y.airMoisture(3), 1);
        DryingKiln z = new DryingKiln();
        z.addBoard(3, 0);
        z.addBoard(3, 0);
        z.setCapacity(3);
        z.setHumidity(10);
        // -4 / 3 rounds toward zero.
        z.dry(1);
        Due.is("negative water divided by capacity", z.airMoisture(1), 9);
    }

    private static void promise19DryHours() {
        DryingKiln x = new DryingKiln();
        for (int hours : new int[] {0, 201, -1, LEAST, MOST}) {
            Due.is("dry(" + hours + ")", x.dry(hours), Due.BAD_VALUE);
        }
        Due.is("no hour after bad values", x.hour(), 0);
        Due.is("dry(200) without boards", x.dry(200), 0);
        Due.is("hour() after dry(200)", x.hour(), 200);
        DryingKiln one = new DryingKiln();
        DryingKiln many = new DryingKiln();
        one.addBoard(5, 900);
        many.addBoard(5, 900);
        int sum = 0;
        for (int i = 0; i < 20; i++) {
            sum += one.dry(1);
        }
        Due.is("dry(20) is 20 times dry(1)", many.dry(20), sum);
        Due.is("averageMoisture(0) after both", many.averageMoisture(0), one.averageMoisture(0));
        Due.is("checkHour(0) after both", many.checkHour(0), one.checkHour(0));
        one.addStage(2000, 0);
        many.addStage(2000, 300);
        Due.is("dry heeds no stage", many.dry(1), one.dry(1));
    }

    private static void promise20Rest() {
        DryingKiln x = new DryingKiln();
        for (int hours : new int[] {0, 201, -1, LEAST, MOST}) {
            Due.is("rest(" + hours + ")", x.rest(hours), Due.BAD_VALUE);
        }
        Due.is("no hour after bad values", x.hour(), 0);
        Due.is("rest(200) without boards", x.rest(200), 0);
        Due.is("hour() after rest(200)", x.hour(), 200);
        DryingKiln y = withLayers(0, 1000, 305, 14);
        Due.is("rest(1) of uneven layers", y.rest(1), 1);
        layersAre("rest(1) of uneven layers", y, 0, 100, 1000 - 100 - 69, 305 + 69 - 29, 14 + 29);
        Due.is("rest gives off nothing", y.evaporated(), 0);
        Due.is("rest involves no air", y.airMoisture(0), Due.NONE);
        DryingKiln z = new DryingKiln();
        for (int i = 0; i < 3; i++) {
            z.addBoard(3, 0);
            z.setLayer(i, 1, 200 + 150 * i);
        }
        z.setStrainLimit(100);
        // The strain falls to 7 tenths in an hour: 140, 245 and 350 after the first.
        Due.is("rest counts the boards with new checks", z.rest(5), 3);
        Due.is("rest counts no board twice", z.rest(5), 0);
    }

    private static void promise21Hour() {
        DryingKiln x = new DryingKiln();
        x.dry(3);
        Due.is("hour() after dry(3)", x.hour(), 3);
        x.rest(4);
        Due.is("hour() after rest(4)", x.hour(), 7);
        x.addBoard(3, 500);
        Due.is("runSchedule(0, 5)", x.runSchedule(0, 5), 5);
        Due.is("hour() after runSchedule", x.hour(), 12);
        x.plannedHours(100);
        x.plannedInlet(100, 3);
        Due.is("hour() after a plan", x.hour(), 12);
    }

    private static void promise22Evaporated() {
        DryingKiln x = new DryingKiln();
        x.addBoard(5, 700);
        x.addBoard(4, 50);
        int sum = x.dry(5);
        Due.is("evaporated() after dry", x.evaporated(), sum);
        x.rest(5);
        Due.is("evaporated() after rest", x.evaporated(), sum);
        sum += x.dry(2);
        Due.is("evaporated() after dry again", x.evaporated(), sum);
        int before = x.totalWater();
        x.runSchedule(0, 6);
        sum += before - x.totalWater();
        Due.is("evaporated() after runSchedule", x.evaporated(), sum);
        x.plannedHours(100);
        Due.is("evaporated() after a plan", x.evaporated(), sum);
        DryingKiln y = new DryingKiln();
        y.addBoard(3, 0);
        y.setHumidity(300);
        Due.is("dry(1) in moist air", y.dry(1), -120);
        Due.is("evaporated() can be negative", y.evaporated(), -120);
    }

    private static void promise23AirMoisture() {
        DryingKiln x = new DryingKiln();
        Due.is("airMoisture(0) without boards", x.airMoisture(0), Due.NO_SUCH_BOARD);
        x.dry(1);
        x.addBoard(3, 620);
        Due.is("added after the drying hour", x.airMoisture(0), Due.NONE);
        x.rest(1);
        Due.is("a rest hour has no air", x.airMoisture(0), Due.NONE);
        x.dry(1);
        Due.is("after a drying hour", x.airMoisture(0), 120);
        x.addBoard(3, 620);
        Due.is("the second was added after it", x.airMoisture(1), Due.NONE);
        x.setHumidity(40);
        x.rest(2);
        Due.is("the latest drying hour, not the setting", x.airMoisture(0), 120);
        x.plannedHours(100);
        Due.is("a plan is no drying hour", x.airMoisture(0), 120);
        Due.is("a plan is no drying hour of the second", x.airMoisture(1), Due.NONE);
        x.addStage(2000, 77);
        x.runSchedule(0, 1);
        Due.is("a scheduled hour is one", x.airMoisture(0), 77);
        for (int board : new int[] {-1, 2, LEAST, MOST}) {
            Due.is("airMoisture(" + board + ")", x.airMoisture(board), Due.NO_SUCH_BOARD);
        }
    }
}
