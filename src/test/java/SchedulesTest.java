/** Promises 24 to 27: stages and schedules. */
public final class SchedulesTest {
    private static final int LEAST = Integer.MIN_VALUE;
    private static final int MOST = Integer.MAX_VALUE;

    public static void main(String[] args) {
        promise24AddStage();
        promise25ClearStages();
        promise26CurrentStage();
        promise27BadValues();
        promise27RunSchedule();
        promise27InletOfEachHour();
        Due.finish();
    }

    private static void refuseStages(DryingKiln x) {
        int[][] bad = {{-1, 0}, {2001, 0}, {LEAST, 0}, {MOST, 0}, {0, -1}, {0, 301}, {0, LEAST}, {0, MOST}};
        for (int[] b : bad) {
            Due.is("addStage(" + b[0] + ", " + b[1] + ")", x.addStage(b[0], b[1]), Due.BAD_VALUE);
        }
    }

    private static void promise24AddStage() {
        DryingKiln x = new DryingKiln();
        refuseStages(x);
        Due.is("no stage after bad values", x.clearStages(), 0);
        Due.is("addStage(2000, 300)", x.addStage(2000, 300), 0);
        Due.is("addStage(2000, 0)", x.addStage(2000, 0), Due.BAD_VALUE);
        Due.is("addStage(1999, 0)", x.addStage(1999, 0), 1);
        for (int i = 2; i < 8; i++) {
            Due.is("stage " + i, x.addStage(100 - i, i), i);
        }
        Due.is("a ninth stage", x.addStage(50, 0), Due.FULL);
        Due.is("a ninth stage that is not lower", x.addStage(93, 0), Due.BAD_VALUE);
        refuseStages(x);
        Due.is("eight stages after the errors", x.clearStages(), 8);
        Due.is("addStage(0, 0)", x.addStage(0, 0), 0);
        Due.is("nothing is less than 0", x.addStage(0, 0), Due.BAD_VALUE);
    }

    private static void promise25ClearStages() {
        DryingKiln x = new DryingKiln();
        Due.is("clearStages() at first", x.clearStages(), 0);
        x.addBoard(3, 10);
        x.addStage(100, 0);
        x.addStage(50, 0);
        Due.is("currentStage() before", x.currentStage(), 1);
        Due.is("clearStages()", x.clearStages(), 2);
        Due.is("currentStage() after", x.currentStage(), Due.NONE);
        Due.is("clearStages() again", x.clearStages(), 0);
        Due.is("a greater threshold after clearing", x.addStage(2000, 0), 0);
    }

    private static void promise26CurrentStage() {
        DryingKiln x = new DryingKiln();
        x.addStage(600, 0);
        x.addStage(400, 0);
        x.addStage(0, 0);
        Due.is("currentStage() without boards", x.currentStage(), Due.NONE);
        x.addBoard(3, 0);
        Due.is("control moisture 0", x.currentStage(), 2);
        x.setLayer(0, 0, 2);
        Due.is("an average that rounds down to 0", x.currentStage(), 2);
        x.setLayer(0, 0, 3);
        Due.is("control moisture 1", x.currentStage(), 1);
        x.addBoard(4, 400);
        Due.is("control moisture 400", x.currentStage(), 1);
        x.addBoard(4, 401);
        Due.is("control moisture 401", x.currentStage(), 0);
        x.addBoard(4, 600);
        Due.is("control moisture 600", x.currentStage(), 0);
        x.addBoard(4, 601);
        Due.is("control moisture 601", x.currentStage(), Due.NONE);
    }

    private static void promise27BadValues() {
        DryingKiln x = new DryingKiln();
        x.addBoard(3, 2000);
        int[][] bad = {{-1, 1}, {2001, 1}, {LEAST, 1}, {MOST, 1}, {0, 0}, {0, 201}, {0, -1}, {0, LEAST}, {0, MOST}};
        for (int[] b : bad) {
            Due.is("runSchedule(" + b[0] + ", " + b[1] + ")", x.runSchedule(b[0], b[1]), Due.BAD_VALUE);
        }
        Due.is("no hour after bad values", x.hour(), 0);
    }

    private static void promise27RunSchedule() {
        DryingKiln x = new DryingKiln();
        Due.is("runSchedule without boards", x.runSchedule(0, 200), 0);
        x.addBoard(3, 500);
        Due.is("the target is reached already", x.runSchedule(500, 200), 0);
        Due.is("the target is 1 less", x.runSchedule(499, 200), 1);
        Due.is("maxHours ends it", x.runSchedule(0, 1), 1);
        Due.is("maxHours 200 ends it", x.runSchedule(0, 200), 200);
        Due.is("hour() after it", x.hour(), 202);
        x.addBoard(3, 2000);
        Due.is("some board is enough", x.runSchedule(1999, 200), 1);
        x.setLayer(1, 0, 1003);
        x.setLayer(1, 1, 1001);
        x.setLayer(1, 2, 998);
        Due.is("an average that rounds down to the target", x.runSchedule(1000, 200), 0);
    }

    private static void promise27InletOfEachHour() {
        DryingKiln x = new DryingKiln();
        x.addBoard(3, 500);
        x.addStage(450, 200);
        x.addStage(400, 250);
        int[] inlets = new int[12];
        for (int i = 0; i < inlets.length; i++) {
            int stage = x.currentStage();
            inlets[i] = stage == Due.NONE ? 120 : 200 + 50 * stage;
            Due.is("runSchedule(0, 1)", x.runSchedule(0, 1), 1);
            Due.is("the air of scheduled hour " + i, x.airMoisture(0), inlets[i]);
        }
        Due.is("the first hour is at the humidity setting", inlets[0], 120);
        Due.is("the last hour is at the second stage", inlets[11], 250);
        DryingKiln y = new DryingKiln();
        y.addBoard(3, 500);
        y.addStage(450, 200);
        y.addStage(400, 250);
        Due.is("runSchedule(0, 12)", y.runSchedule(0, 12), 12);
        Due.is("the same in one call", y.totalWater(), x.totalWater());
        Due.is("the same checks in one call", y.checkHour(0), x.checkHour(0));
        DryingKiln z = new DryingKiln();
        z.addBoard(5, 800);
        z.addStage(2000, 0);
        z.runSchedule(0, 2);
        Due.is("scheduled hours record checks", z.checkHour(0), 2);
    }
}
