/** The boundary cases of promises 28 and 29, a method for each sentence that names one. */
public final class PlanEdgesTest {
    private static final int LEAST = Integer.MIN_VALUE;
    private static final int MOST = Integer.MAX_VALUE;

    public static void main(String[] args) {
        plannedHoursTargetFrom0To2000();
        plannedHoursRefusedChangesNothing();
        plannedHoursWithoutBoards();
        plannedHoursEndsAtTheTarget();
        plannedHoursOfSomeBoard();
        plannedHoursOf300And301();
        everyInletFrom0To300();
        aRestIfEven300IsTooDry();
        aStrainAtTheLimitIsFine();
        everyBoardsStrainCounts();
        presentSettingsCount();
        humidityAndStagesDoNotCount();
        fanAndCountersAreThePresentOnes();
        restHoursTurnNoFan();
        triedHoursTurnNoFan();
        planningLeavesTheKiln();
        checksHaveNoInfluence();
        plannedInletHoursOfThePlan();
        plannedInletBadValues();
        plannedInletNoneBeforeRest();
        plannedInletWithoutHours();
        plannedInletOfAPlanOf300();
        Due.finish();
    }

    private static DryingKiln even(int moisture, int limit) {
        DryingKiln x = Kilns.withEvenBoards(1, 3, moisture);
        x.setStrainLimit(limit);
        return x;
    }

    // ---- promise 28: plannedHours

    private static void plannedHoursTargetFrom0To2000() {
        DryingKiln x = even(2000, 900);
        Due.is("plannedHours(2000)", x.plannedHours(2000), 0);
        Due.is("plannedHours(1999)", x.plannedHours(1999), 1);
        for (int target : new int[] {-1, 2001, -2000, LEAST, MOST}) {
            Due.is("plannedHours(" + target + ")", x.plannedHours(target), Due.BAD_VALUE);
        }
        // A face of 4 loses nothing any more, so 0 stays away from a wet board.
        Due.is("plannedHours(0) of a wet board", x.plannedHours(0), Due.NONE);
        DryingKiln y = Kilns.withLayers(5, 0, 0);
        Due.is("plannedHours(0) of 5 / 3", y.plannedHours(0), Due.NONE);
        y.setSurface(500);
        // The top loses 2, and 3 / 3 is 1; then it loses 1.
        Due.is("plannedHours(0) at a surface of 500", y.plannedHours(0), 2);
        y.setLayer(0, 0, 2);
        Due.is("plannedHours(0) of 2 / 3", y.plannedHours(0), 0);
    }

    private static void plannedHoursRefusedChangesNothing() {
        for (int target : new int[] {-1, 2001, LEAST, MOST}) {
            Refusal.isEverywhere("plannedHours(" + target + ")", x -> x.plannedHours(target), Due.BAD_VALUE);
            Refusal.isEverywhere("plannedInlet(" + target + ", 0)", x -> x.plannedInlet(target, 0), Due.BAD_VALUE);
        }
        Refusal.isEverywhere("plannedInlet(0, -1)", x -> x.plannedInlet(0, -1), Due.BAD_VALUE);
        Refusal.is("a plan that is too long", Kilns::useMuch, x -> x.plannedHours(0), Due.NONE);
        Refusal.is("an hour of it", Kilns::useMuch, x -> x.plannedInlet(0, 0), Due.NONE);
    }

    private static void plannedHoursWithoutBoards() {
        DryingKiln x = new DryingKiln();
        Due.is("plannedHours(0) without boards", x.plannedHours(0), 0);
        Due.is("plannedHours(2000) without boards", x.plannedHours(2000), 0);
        Due.is("plannedHours(-1) without boards", x.plannedHours(-1), Due.BAD_VALUE);
        Due.is("plannedInlet(0, 0) without boards", x.plannedInlet(0, 0), Due.NONE);
    }

    private static void plannedHoursEndsAtTheTarget() {
        // In air of 0 a board of 500 loses 200, then 2 * 80: averages of 433 and 380.
        int[][] targetAndHours = {{500, 0}, {499, 1}, {433, 1}, {432, 2}, {380, 2}, {379, 3}};
        for (int[] t : targetAndHours) {
            DryingKiln x = even(500, 200);
            Due.is("plannedHours(" + t[0] + ")", x.plannedHours(t[0]), t[1]);
        }
    }

    private static void plannedHoursOfSomeBoard() {
        for (int wet = 0; wet < 6; wet++) {
            DryingKiln x = Kilns.withEvenBoards(6, 3, 100);
            x.setLayer(wet, 1, 102);
            Due.is("board " + wet + " has 302 / 3", x.plannedHours(100), 0);
            x.setLayer(wet, 1, 103);
            Due.is("board " + wet + " has 303 / 3", x.plannedHours(100), 1);
        }
    }

    /** Each face loses 1 an hour in air of 0, and nothing flows inside. */
    private static DryingKiln losingTwoAnHour(int innerMoisture) {
        DryingKiln x = Kilns.withLayers(1999, innerMoisture, 1999, 1999);
        x.setSurface(1);
        x.setDiffusion(1);
        x.setStrainLimit(900);
        return x;
    }

    private static void plannedHoursOf300And301() {
        // 7995 - 600 = 7395 is less than 4 * 1849, and 7997 - 600 is not; an hour more takes 2.
        Due.is("299 hours are needed", losingTwoAnHour(1996).plannedHours(1848), 299);
        Due.is("300 hours are needed", losingTwoAnHour(1998).plannedHours(1848), 300);
        Due.is("301 hours are needed", losingTwoAnHour(2000).plannedHours(1848), Due.NONE);
        DryingKiln x = losingTwoAnHour(2000);
        x.setHumidity(0);
        x.dry(1);
        Due.is("300 after a real hour", x.plannedHours(1848), 300);
        x.dry(199);
        Due.is("101 after 200 real hours", x.plannedHours(1848), 101);
        x.dry(100);
        Due.is("1 after 300 real hours", x.plannedHours(1848), 1);
        x.dry(1);
        Due.is("0 after 301 real hours", x.plannedHours(1848), 0);
    }

    /** With a limit of 20 an even board may be up to 104 wetter than the air. */
    private static void everyInletFrom0To300() {
        for (int inlet = 0; inlet <= 300; inlet += 10) {
            for (int below = 0; below < 10; below++) {
                int moisture = 104 + inlet - below;
                if (inlet > 0 || below == 0) {
                    DryingKiln x = even(moisture, 20);
                    Due.is("the inlet for " + moisture, x.plannedInlet(moisture - 1, 0), inlet);
                    Due.is("one hour for " + moisture, x.plannedHours(moisture - 1), 1);
                }
            }
        }
    }

    private static void aRestIfEven300IsTooDry() {
        DryingKiln x = even(405, 20);
        Due.is("405 never dries", x.plannedHours(404), Due.NONE);
        // In air of 300 the faces become 180 and the middle 420; after a rest 140 and 420, then 168 + 2 and 364.
        DryingKiln y = Kilns.withLayers(100, 500, 100);
        Due.is("a strain of 240 in air of 300", y.plannedInlet(150, 0), Due.REST);
        y.setStrainLimit(239);
        Due.is("239 is too low a limit", y.plannedInlet(150, 0), Due.REST);
        y.setStrainLimit(240);
        Due.is("240 is none", y.plannedInlet(150, 0), 300);
    }

    private static void aStrainAtTheLimitIsFine() {
        // In air of 0 the faces of 1000 lose 200.
        Due.is("a limit of 200", even(1000, 200).plannedInlet(999, 0), 0);
        Due.is("a limit of 199", even(1000, 199).plannedInlet(999, 0), 10);
        Due.is("a limit of 201", even(1000, 201).plannedInlet(999, 0), 0);
        DryingKiln x = even(2000, 900);
        x.setSurface(450);
        Due.is("a limit of 900", x.plannedInlet(1999, 0), 0);
        x.setSurface(451);
        Due.is("902 of 900", x.plannedInlet(1999, 0), 10);
    }

    private static void everyBoardsStrainCounts() {
        for (int wet = 0; wet < 6; wet++) {
            DryingKiln x = Kilns.withEvenBoards(6, 3, 100);
            for (int layer = 0; layer < 3; layer++) {
                x.setLayer(wet, layer, 505);
            }
            x.setStrainLimit(50);
            x.setCapacity(10000);
            Due.is("board " + wet + " decides", x.plannedInlet(504, 0), 260);
            Due.is("one hour for board " + wet, x.plannedHours(504), 1);
        }
        // Board 0 is below the target, but its strain of 360 in air of 300 asks for a rest.
        DryingKiln y = Kilns.withLayers(0, 600, 0);
        y.addBoard(3, 500);
        Due.is("a board below the target counts too", y.plannedInlet(400, 0), Due.REST);
    }

    private static void presentSettingsCount() {
        DryingKiln x = even(500, 50);
        Due.is("a surface of 200", x.plannedInlet(499, 0), 250);
        x.setSurface(100);
        Due.is("a surface of 100", x.plannedInlet(499, 0), 0);
        x.setSurface(500);
        Due.is("a surface of 500", x.plannedInlet(499, 0), Due.NONE);
        // The middle of 520 gives a quarter of 100 to each face instead of a tenth.
        DryingKiln y = Kilns.withLayers(420, 520, 420);
        y.setStrainLimit(100);
        // (420 - e) / 5 - 20 - 10 is at most 0.
        Due.is("a diffusion of 100", y.plannedInlet(400, 0), 270);
        y.setDiffusion(250);
        // (420 - e) / 5 - 50 - 25 is at most 0.
        Due.is("a diffusion of 250", y.plannedInlet(400, 0), 50);
        DryingKiln z = Kilns.withEvenBoards(1, 3, 400);
        z.addBoard(3, 505);
        z.setStrainLimit(50);
        // In air of 150 board 0 loses 50; it moistens the air by 100 / 50, by 100 or not at all.
        z.setCapacity(10000);
        Due.is("a capacity of 10000", z.plannedInlet(504, 0), 260);
        z.setCapacity(1);
        Due.is("a capacity of 1", z.plannedInlet(504, 0), 160);
    }

    private static void humidityAndStagesDoNotCount() {
        DryingKiln x = even(500, 50);
        x.setHumidity(300);
        x.addStage(2000, 300);
        Due.is("neither humidity nor stages", x.plannedInlet(499, 0), 250);
        Due.is("the humidity stays", x.setHumidity(0), 300);
    }

    /** Follows the plan hour by hour: what is left of it has to stay the plan. */
    private static void follow(String when, DryingKiln x, int target, int most) {
        int hours = x.plannedHours(target);
        Due.holds(when + ": a plan of some hours, not " + hours, hours > 5);
        int last = Due.NONE;
        for (int hour = 0; hour < Math.min(hours, most); hour++) {
            Due.is(when + ": the hours left after " + hour, x.plannedHours(target), hours - hour);
            int inlet = x.plannedInlet(target, 0);
            if (hour > 0) {
                Due.is(when + ": hour " + hour, inlet, last);
            }
            last = x.plannedInlet(target, 1);
            if (inlet == Due.REST) {
                x.rest(1);
            } else {
                x.setHumidity(inlet);
                x.dry(1);
            }
        }
    }

    private static void fanAndCountersAreThePresentOnes() {
        for (int period = 0; period <= 4; period++) {
            for (int before = 0; before <= 4; before++) {
                for (int reversed = 0; reversed < 2; reversed++) {
                    DryingKiln x = Kilns.withEvenBoards(1, 3, 900);
                    x.addBoard(4, 880);
                    x.addBoard(5, 300);
                    x.setCapacity(3);
                    x.setStrainLimit(150);
                    x.setReversalPeriod(period);
                    if (before > 0) {
                        x.dry(before);
                    }
                    x.setFan(reversed == 1);
                    follow("period " + period + " after " + before + ", fan " + reversed, x, 500, 12);
                }
            }
        }
    }

    private static void restHoursTurnNoFan() {
        for (int period = 1; period <= 3; period++) {
            DryingKiln x = Kilns.withLayers(100, 900, 100);
            x.addBoard(3, 700);
            x.addBoard(3, 300);
            x.setCapacity(3);
            x.setReversalPeriod(period);
            Due.is("period " + period + ": the plan begins with a rest", x.plannedInlet(250, 0), Due.REST);
            follow("rests, period " + period, x, 250, 60);
        }
    }

    /** Only the chosen inlet moisture's hour happens in the plan, however many were tried. */
    private static void triedHoursTurnNoFan() {
        for (int limit : new int[] {100, 110, 120, 130}) {
            DryingKiln x = Kilns.withEvenBoards(1, 3, 700);
            x.addBoard(3, 640);
            x.setCapacity(2);
            x.setStrainLimit(limit);
            x.setReversalPeriod(1);
            Due.holds("some inlets are too dry for " + limit, x.plannedInlet(400, 0) > 0);
            follow("tried hours, limit " + limit, x, 400, 30);
        }
    }

    /** "the kiln itself does not change", "airMoisture still tells of the latest real drying hour". */
    private static void planningLeavesTheKiln() {
        for (int target : new int[] {0, 100, 300, 500, 1999, 2000}) {
            Refusal.changesNothing("plannedHours(" + target + ")", Kilns::useMuch, x -> x.plannedHours(target));
            Refusal.changesNothing("plannedInlet(" + target + ", 0)", Kilns::useMuch, x -> x.plannedInlet(target, 0));
            Refusal.changesNothing("plannedHours(" + target + ") before any hour", Kilns::fill, x -> x.plannedHours(target));
        }
        DryingKiln x = Kilns.withEvenBoards(2, 3, 620);
        x.dry(1);
        x.plannedHours(300);
        Due.is("airMoisture(1) after a plan", x.airMoisture(1), 124);
        x.addBoard(3, 620);
        x.plannedHours(300);
        Due.is("airMoisture(2) after a plan", x.airMoisture(2), Due.NONE);
    }

    private static void checksHaveNoInfluence() {
        DryingKiln checked = Kilns.withLayers(500, 900, 500);
        checked.rest(1);
        Due.is("a check", checked.checkHour(0), 1);
        for (int layer = 0; layer < 3; layer++) {
            checked.setLayer(0, layer, 500);
        }
        DryingKiln sound = even(500, 50);
        checked.setStrainLimit(50);
        Due.is("plannedHours(200) with a check", checked.plannedHours(200), sound.plannedHours(200));
        for (int hour = 0; hour < 20; hour++) {
            Due.is("plannedInlet(200, " + hour + ")", checked.plannedInlet(200, hour), sound.plannedInlet(200, hour));
        }
        Due.is("the check stays", checked.checkHour(0), 1);
        DryingKiln strained = Kilns.withLayers(100, 900, 100);
        strained.plannedHours(150);
        Due.is("planning records none", strained.checkHour(0), Due.NONE);
    }

    // ---- promise 29: plannedInlet

    private static void plannedInletHoursOfThePlan() {
        DryingKiln x = even(500, 200);
        Due.is("the first hour", x.plannedInlet(379, 0), 0);
        Due.is("the last hour", x.plannedInlet(379, 2), 0);
        Due.is("the hour after the last", x.plannedInlet(379, 3), Due.NONE);
        for (int hour : new int[] {4, 299, 300, 301, MOST - 1, MOST}) {
            Due.is("hour " + hour, x.plannedInlet(379, hour), Due.NONE);
        }
        x.plannedInlet(100, 0);
        Due.is("a longer plan asked for before is no part of it", x.plannedInlet(379, 3), Due.NONE);
    }

    private static void plannedInletBadValues() {
        DryingKiln x = even(500, 200);
        for (int target : new int[] {-1, 2001, LEAST, MOST}) {
            for (int hour : new int[] {0, -1, 300, LEAST, MOST}) {
                Due.is("plannedInlet(" + target + ", " + hour + ")", x.plannedInlet(target, hour), Due.BAD_VALUE);
            }
        }
        for (int target : new int[] {0, 379, 500, 2000}) {
            for (int hour : new int[] {-1, -2, -300, LEAST, LEAST + 1}) {
                Due.is("plannedInlet(" + target + ", " + hour + ")", x.plannedInlet(target, hour), Due.BAD_VALUE);
            }
        }
        Due.is("plannedInlet(0, -1) without boards", new DryingKiln().plannedInlet(0, -1), Due.BAD_VALUE);
    }

    private static void plannedInletNoneBeforeRest() {
        DryingKiln x = even(405, 20);
        for (int hour : new int[] {0, 1, 299, 300, MOST}) {
            Due.is("hour " + hour + " of rests without an end", x.plannedInlet(404, hour), Due.NONE);
        }
        Due.is("a bad hour of it", x.plannedInlet(404, -1), Due.BAD_VALUE);
        Due.is("a plan of more than 300 hours that begins without a rest", losingTwoAnHour(2000).plannedInlet(1848, 0), Due.NONE);
    }

    /** "(as for a target that is reached already)". */
    private static void plannedInletWithoutHours() {
        DryingKiln x = even(500, 200);
        Due.is("a target that is reached", x.plannedInlet(500, 0), Due.NONE);
        Due.is("a target that is 1 lower", x.plannedInlet(499, 0), 0);
        Due.is("the greatest target", x.plannedInlet(2000, 0), Due.NONE);
        Due.is("any hour of a target that is reached", x.plannedInlet(500, 300), Due.NONE);
    }

    private static void plannedInletOfAPlanOf300() {
        DryingKiln x = losingTwoAnHour(1998);
        for (int hour : new int[] {0, 1, 298, 299}) {
            Due.is("hour " + hour + " of 300", x.plannedInlet(1848, hour), 0);
        }
        for (int hour : new int[] {300, 301, MOST}) {
            Due.is("hour " + hour + " of 300", x.plannedInlet(1848, hour), Due.NONE);
        }
        // Rests make the middle's water flow to the faces, so that the plan ends with drying.
        DryingKiln y = Kilns.withLayers(100, 500, 100);
        int hours = y.plannedHours(150);
        Due.is("the first hour is a rest", y.plannedInlet(150, 0), Due.REST);
        Due.holds("the last hour is none", y.plannedInlet(150, hours - 1) >= 0);
        Due.is("there is no hour after it", y.plannedInlet(150, hours), Due.NONE);
    }
}
