/** The boundary cases of promises 24 to 27, a method for each sentence that names one. */
public final class ScheduleEdgesTest {
    private static final int LEAST = Integer.MIN_VALUE;
    private static final int MOST = Integer.MAX_VALUE;

    public static void main(String[] args) {
        addStageThresholdFrom0To2000();
        addStageInletFrom0To300();
        addStageLessThanTheStageBefore();
        addStageUpToEight();
        addStageBadValueBeforeFull();
        addStageAfterAnEighthOf0();
        addStageRefusedChangesNothing();
        clearStagesEmptyAndFull();
        clearStagesLeavesTheRest();
        currentStageWithoutBoards();
        currentStageWithoutStages();
        currentStageAtEachThreshold();
        currentStageOfTheGreatestAverage();
        currentStageAt0And2000();
        runScheduleTargetFrom0To2000();
        runScheduleMaxHoursFrom1To200();
        runScheduleRefusedChangesNothing();
        runScheduleWithoutBoards();
        runScheduleWithoutStages();
        runScheduleEndsAtTheTarget();
        runScheduleSomeBoard();
        runScheduleStageAtTheStartOfEachHour();
        runScheduleHumidityIfNoStageApplies();
        runScheduleHoursAreDryingHours();
        Due.finish();
    }

    // ---- promise 24: addStage

    private static void addStageThresholdFrom0To2000() {
        for (int threshold : new int[] {0, 1, 1999, 2000}) {
            DryingKiln x = new DryingKiln();
            Due.is("addStage(" + threshold + ", 5)", x.addStage(threshold, 5), 0);
            Due.is("it is there", x.clearStages(), 1);
        }
        for (int threshold : new int[] {-1, 2001, -2000, LEAST, MOST}) {
            Refusal.isEverywhere("addStage(" + threshold + ", 5)", x -> x.addStage(threshold, 5), Due.BAD_VALUE);
        }
    }

    private static void addStageInletFrom0To300() {
        for (int inlet : new int[] {0, 1, 299, 300}) {
            DryingKiln x = Kilns.withEvenBoards(1, 3, 500);
            Due.is("addStage(500, " + inlet + ")", x.addStage(500, inlet), 0);
            x.runSchedule(0, 1);
            Due.is("the inlet moisture " + inlet, x.airMoisture(0), inlet);
        }
        for (int inlet : new int[] {-1, 301, -300, LEAST, MOST}) {
            Refusal.isEverywhere("addStage(50, " + inlet + ")", x -> x.addStage(50, inlet), Due.BAD_VALUE);
        }
    }

    private static void addStageLessThanTheStageBefore() {
        DryingKiln x = new DryingKiln();
        Due.is("the first stage has none before", x.addStage(2000, 0), 0);
        Due.is("2000 after 2000", x.addStage(2000, 0), Due.BAD_VALUE);
        Due.is("1999 after 2000", x.addStage(1999, 300), 1);
        Due.is("1999 after 1999", x.addStage(1999, 0), Due.BAD_VALUE);
        Due.is("2000 after 1999", x.addStage(2000, 0), Due.BAD_VALUE);
        Due.is("1 after 1999", x.addStage(1, 0), 2);
        Due.is("1 after 1", x.addStage(1, 0), Due.BAD_VALUE);
        Due.is("500, which is less than the second but not than the third", x.addStage(500, 0), Due.BAD_VALUE);
        Due.is("0 after 1", x.addStage(0, 0), 3);
        Due.is("0 after 0", x.addStage(0, 0), Due.BAD_VALUE);
        Due.is("-1 after 0", x.addStage(-1, 0), Due.BAD_VALUE);
        Due.is("four were added", x.clearStages(), 4);
        Due.is("after clearing there is none before", x.addStage(2000, 0), 0);
    }

    private static void addStageUpToEight() {
        DryingKiln x = new DryingKiln();
        for (int i = 0; i < 8; i++) {
            Due.is("a refused stage takes no number", x.addStage(800 - i, 301), Due.BAD_VALUE);
            Due.is("stage " + i, x.addStage(800 - i, 0), i);
        }
        Due.is("the ninth stage", x.addStage(792, 0), Due.FULL);
        Due.is("the ninth stage again", x.addStage(0, 300), Due.FULL);
        Due.is("eight stages", x.clearStages(), 8);
        Due.is("there is room again", x.addStage(0, 0), 0);
    }

    private static void addStageBadValueBeforeFull() {
        int[][] bad = {{-1, 0}, {2001, 0}, {50, -1}, {50, 301}, {100, 0}, {101, 0}, {100, 301}, {2000, 0}, {LEAST, MOST}};
        for (int[] b : bad) {
            String name = "full schedule: addStage(" + b[0] + ", " + b[1] + ")";
            Refusal.is(name, Kilns::fillSchedule, x -> x.addStage(b[0], b[1]), Due.BAD_VALUE);
        }
    }

    /** No threshold is less than 0, so the room that is missing is never told of. */
    private static void addStageAfterAnEighthOf0() {
        for (int threshold : new int[] {0, 1, 7, 2000, -1, 2001}) {
            String name = "an eighth stage of 0: addStage(" + threshold + ", 0)";
            Refusal.is(name, ScheduleEdgesTest::fillDownTo0, x -> x.addStage(threshold, 0), Due.BAD_VALUE);
        }
    }

    private static void fillDownTo0(DryingKiln x) {
        for (int i = 0; i < 8; i++) {
            Due.is("stage " + i + " of eight down to 0", x.addStage(7 - i, i), i);
        }
    }

    private static void addStageRefusedChangesNothing() {
        Refusal.is("full schedule: addStage(99, 0)", Kilns::fillSchedule, x -> x.addStage(99, 0), Due.FULL);
        Refusal.is("full kiln and schedule: addStage(0, 300)", Kilns::useMuch, x -> x.addStage(0, 300), Due.FULL);
        Refusal.is("addStage(700, 9) after 700", x -> x.addStage(700, 70), x -> x.addStage(700, 9), Due.BAD_VALUE);
        Refusal.is("addStage(800, 9) after 700", x -> x.addStage(700, 70), x -> x.addStage(800, 9), Due.BAD_VALUE);
        Refusal.is("addStage(600, 301) after 700", x -> x.addStage(700, 70), x -> x.addStage(600, 301), Due.BAD_VALUE);
    }

    // ---- promise 25: clearStages

    private static void clearStagesEmptyAndFull() {
        DryingKiln x = new DryingKiln();
        Due.is("clearStages() of none", x.clearStages(), 0);
        for (int stages = 1; stages <= 8; stages++) {
            for (int i = 0; i < stages; i++) {
                Due.is("stage " + i, x.addStage(2000 - i, 0), i);
            }
            Due.is("clearStages() of " + stages, x.clearStages(), stages);
            Due.is("clearStages() again", x.clearStages(), 0);
        }
        Kilns.fillSchedule(x);
        Due.is("clearStages() of eight again", x.clearStages(), 8);
    }

    private static void clearStagesLeavesTheRest() {
        Refusal.changesNothing("clearStages() of none", Kilns::leaveEmpty, x -> x.clearStages());
        Refusal.changesNothing("clearStages() of none in a full kiln", Kilns::fill, x -> x.clearStages());
        DryingKiln x = Kilns.withEvenBoards(1, 3, 500);
        x.addStage(2000, 300);
        x.clearStages();
        x.runSchedule(0, 1);
        Due.is("a removed stage does not apply", x.airMoisture(0), 120);
        x.addStage(300, 0);
        Due.is("nor does it come back", x.currentStage(), Due.NONE);
    }

    // ---- promise 26: currentStage

    private static void currentStageWithoutBoards() {
        DryingKiln x = new DryingKiln();
        Due.is("without boards and stages", x.currentStage(), Due.NONE);
        Kilns.fillSchedule(x);
        Due.is("without boards, eight stages", x.currentStage(), Due.NONE);
        x.clearStages();
        x.addStage(0, 0);
        Due.is("without boards, a threshold of 0", x.currentStage(), Due.NONE);
        x.addBoard(3, 0);
        Due.is("with a dry board", x.currentStage(), 0);
    }

    private static void currentStageWithoutStages() {
        DryingKiln x = Kilns.withEvenBoards(1, 3, 0);
        Due.is("without stages, a dry board", x.currentStage(), Due.NONE);
        x.addBoard(3, 2000);
        Due.is("without stages, a wet board", x.currentStage(), Due.NONE);
    }

    private static void currentStageAtEachThreshold() {
        DryingKiln x = Kilns.withEvenBoards(1, 3, 0);
        Kilns.fillSchedule(x);
        for (int stage = 0; stage < 8; stage++) {
            int threshold = 800 - 100 * stage;
            setAll(x, threshold - 1);
            Due.is("1 below threshold " + stage, x.currentStage(), stage);
            setAll(x, threshold);
            Due.is("at threshold " + stage, x.currentStage(), stage);
            x.setLayer(0, 2, threshold + 2);
            Due.is("rounded down to threshold " + stage, x.currentStage(), stage);
            x.setLayer(0, 2, threshold + 3);
            Due.is("1 above threshold " + stage, x.currentStage(), stage == 0 ? Due.NONE : stage - 1);
        }
        setAll(x, 0);
        Due.is("the last stage for 0", x.currentStage(), 7);
        setAll(x, 2000);
        Due.is("no stage for 2000", x.currentStage(), Due.NONE);
        Refusal.changesNothing("currentStage()", Kilns::useMuch, k -> k.currentStage());
    }

    private static void setAll(DryingKiln x, int moisture) {
        for (int layer = 0; layer < 3; layer++) {
            x.setLayer(0, layer, moisture);
        }
    }

    private static void currentStageOfTheGreatestAverage() {
        for (int wet = 0; wet < 6; wet++) {
            DryingKiln x = Kilns.withEvenBoards(6, 3, 100);
            x.addStage(101, 0);
            x.addStage(100, 0);
            Due.is("six boards of 100", x.currentStage(), 1);
            x.setLayer(wet, 1, 102);
            Due.is("board " + wet + " has 302 / 3", x.currentStage(), 1);
            x.setLayer(wet, 1, 103);
            Due.is("board " + wet + " has 303 / 3", x.currentStage(), 0);
            x.setLayer(wet, 1, 106);
            Due.is("board " + wet + " has 306 / 3", x.currentStage(), Due.NONE);
        }
    }

    private static void currentStageAt0And2000() {
        DryingKiln x = Kilns.withEvenBoards(1, 9, 2000);
        x.addStage(2000, 0);
        x.addStage(0, 0);
        Due.is("2000 at a threshold of 2000", x.currentStage(), 0);
        DryingKiln y = Kilns.withLayers(1, 1, 0);
        y.addStage(2000, 0);
        y.addStage(0, 0);
        Due.is("2 / 3 at a threshold of 0", y.currentStage(), 1);
        y.setLayer(0, 2, 1);
        Due.is("3 / 3 at a threshold of 0", y.currentStage(), 0);
        DryingKiln z = Kilns.withEvenBoards(1, 3, 2000);
        z.addStage(1999, 0);
        Due.is("2000 at a threshold of 1999", z.currentStage(), Due.NONE);
    }

    // ---- promise 27: runSchedule

    private static void runScheduleTargetFrom0To2000() {
        DryingKiln x = Kilns.withEvenBoards(1, 3, 2000);
        Due.is("runSchedule(2000, 200)", x.runSchedule(2000, 200), 0);
        Due.is("runSchedule(1999, 200)", x.runSchedule(1999, 200), 1);
        Due.is("runSchedule(0, 2)", x.runSchedule(0, 2), 2);
        Due.is("runSchedule(1, 2)", x.runSchedule(1, 2), 2);
        Due.is("hour()", x.hour(), 5);
        for (int target : new int[] {-1, 2001, LEAST, MOST}) {
            Due.is("runSchedule(" + target + ", 1)", x.runSchedule(target, 1), Due.BAD_VALUE);
        }
        Due.is("hour() after the errors", x.hour(), 5);
        // 2 / 3 rounds down to 0.
        DryingKiln y = Kilns.withLayers(0, 2, 0);
        Due.is("a target of 0 that is reached", y.runSchedule(0, 200), 0);
        y.setLayer(0, 1, 3);
        Due.is("a target of 0 that is not", y.runSchedule(0, 1), 1);
    }

    private static void runScheduleMaxHoursFrom1To200() {
        for (int most : new int[] {1, 2, 199, 200}) {
            DryingKiln x = Kilns.withEvenBoards(1, 3, 2000);
            Due.is("runSchedule(0, " + most + ")", x.runSchedule(0, most), most);
            Due.is("hour() after it", x.hour(), most);
        }
        for (int most : new int[] {0, 201, -1, -200, LEAST, MOST}) {
            DryingKiln x = Kilns.withEvenBoards(1, 3, 2000);
            Due.is("runSchedule(0, " + most + ")", x.runSchedule(0, most), Due.BAD_VALUE);
            Due.is("runSchedule(2000, " + most + ")", x.runSchedule(2000, most), Due.BAD_VALUE);
            Due.is("runSchedule(2001, " + most + ")", x.runSchedule(2001, most), Due.BAD_VALUE);
            Due.is("hour() after them", x.hour(), 0);
        }
    }

    private static void runScheduleRefusedChangesNothing() {
        int[][] bad = {{-1, 1}, {2001, 1}, {0, 0}, {0, 201}, {-1, 0}, {2001, 201}};
        for (int[] b : bad) {
            Refusal.isEverywhere("runSchedule(" + b[0] + ", " + b[1] + ")", x -> x.runSchedule(b[0], b[1]), Due.BAD_VALUE);
        }
        Refusal.is("a target that is reached", Kilns::useMuch, x -> x.runSchedule(2000, 200), 0);
    }

    private static void runScheduleWithoutBoards() {
        Refusal.is("runSchedule(0, 200) without boards", Kilns::leaveEmpty, x -> x.runSchedule(0, 200), 0);
        Refusal.is("runSchedule(0, 1) without boards, eight stages", Kilns::fillSchedule, x -> x.runSchedule(0, 1), 0);
    }

    private static void runScheduleWithoutStages() {
        DryingKiln scheduled = Kilns.full();
        DryingKiln dried = Kilns.full();
        Due.is("runSchedule(0, 50) without stages", scheduled.runSchedule(0, 50), 50);
        dried.dry(50);
        Refusal.same("a schedule without stages instead of dry(50)", scheduled, dried);
    }

    private static void runScheduleEndsAtTheTarget() {
        // In air of 120 a board of 620 loses 200 and then 160: averages of 553 and 500.
        int[][] targetAndHours = {{620, 0}, {619, 1}, {553, 1}, {552, 2}, {500, 2}, {499, 3}};
        for (int[] t : targetAndHours) {
            DryingKiln x = Kilns.withEvenBoards(1, 3, 620);
            Due.is("runSchedule(" + t[0] + ", 200)", x.runSchedule(t[0], 200), t[1]);
            DryingKiln y = Kilns.withEvenBoards(1, 3, 620);
            int most = Math.max(1, t[1]);
            Due.is("runSchedule(" + t[0] + ", " + most + ")", y.runSchedule(t[0], most), t[1]);
            Due.is("once more", y.runSchedule(t[0], 200), 0);
            if (t[1] > 1) {
                DryingKiln z = Kilns.withEvenBoards(1, 3, 620);
                Due.is("an hour less", z.runSchedule(t[0], t[1] - 1), t[1] - 1);
                Due.is("then the hour that is left", z.runSchedule(t[0], 200), 1);
            }
        }
    }

    private static void runScheduleSomeBoard() {
        for (int wet = 0; wet < 6; wet++) {
            DryingKiln x = Kilns.withEvenBoards(6, 3, 100);
            x.setHumidity(0);
            x.setLayer(wet, 1, 102);
            Due.is("board " + wet + " has 302 / 3", x.runSchedule(100, 200), 0);
            x.setLayer(wet, 1, 103);
            Due.is("board " + wet + " has 303 / 3", x.runSchedule(100, 200), 1);
        }
    }

    private static void runScheduleStageAtTheStartOfEachHour() {
        // 500 in air of 200 loses 120: an average of 460; then (440 - 100) / 5 at each face: about 414.
        DryingKiln x = Kilns.withEvenBoards(1, 3, 500);
        x.addStage(500, 200);
        x.addStage(499, 100);
        x.addStage(459, 10);
        Due.is("runSchedule(0, 1)", x.runSchedule(0, 1), 1);
        Due.is("the hour begins at 500", x.airMoisture(0), 200);
        Due.is("averageMoisture(0)", x.averageMoisture(0), 460);
        Due.is("runSchedule(0, 1) again", x.runSchedule(0, 1), 1);
        Due.is("the hour begins at 460", x.airMoisture(0), 100);
        Due.is("runSchedule(0, 1) once more", x.runSchedule(0, 1), 1);
        Due.is("the hour begins below 459", x.airMoisture(0), 10);
        DryingKiln y = Kilns.withEvenBoards(1, 3, 500);
        y.addStage(500, 200);
        y.addStage(499, 100);
        Due.is("runSchedule(0, 2)", y.runSchedule(0, 2), 2);
        Due.is("the stage changes within a call", y.airMoisture(0), 100);
        Due.is("evaporated()", y.evaporated(), 2 * 60 + 2 * 68);
    }

    private static void runScheduleHumidityIfNoStageApplies() {
        for (int moisture : new int[] {600, 601}) {
            DryingKiln x = Kilns.withEvenBoards(1, 3, moisture);
            x.addStage(600, 50);
            x.setHumidity(77);
            x.runSchedule(0, 1);
            Due.is("the air for " + moisture, x.airMoisture(0), moisture == 600 ? 50 : 77);
        }
        for (int stage = 0; stage < 8; stage++) {
            DryingKiln x = Kilns.withEvenBoards(1, 3, 800 - 100 * stage);
            Kilns.fillSchedule(x);
            x.runSchedule(0, 1);
            Due.is("the air of stage " + stage, x.airMoisture(0), 80 - 10 * stage);
            Due.is("the humidity setting stays", x.setHumidity(0), 120);
        }
    }

    private static void runScheduleHoursAreDryingHours() {
        DryingKiln scheduled = Kilns.full();
        DryingKiln dried = Kilns.full();
        for (DryingKiln x : new DryingKiln[] {scheduled, dried}) {
            x.setReversalPeriod(3);
            x.setStrainLimit(100);
            x.setHumidity(40);
            x.addStage(2000, 40);
        }
        Due.is("runSchedule(0, 10)", scheduled.runSchedule(0, 10), 10);
        dried.dry(10);
        Refusal.same("a stage of the humidity's moisture instead of dry(10)", scheduled, dried);
    }
}
