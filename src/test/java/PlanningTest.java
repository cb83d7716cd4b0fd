import java.util.List;

/** Promises 28 and 29: planning. */
public final class PlanningTest {
    private static final int LEAST = Integer.MIN_VALUE;
    private static final int MOST = Integer.MAX_VALUE;

    public static void main(String[] args) {
        badValues();
        emptyPlans();
        theLowestInletThatLeavesNoCheck();
        threeHundredHours();
        restHours();
        checksHaveNoInfluence();
        fanAndCountersAreCopied();
        settingsAreCopied();
        aPlanCanBeFollowed();
        Due.finish();
    }

    private static void badValues() {
        DryingKiln x = new DryingKiln();
        for (int i = 0; i < 2; i++) {
            for (int target : new int[] {-1, 2001, LEAST, MOST}) {
                Due.is("plannedHours(" + target + ")", x.plannedHours(target), Due.BAD_VALUE);
                Due.is("plannedInlet(" + target + ", 0)", x.plannedInlet(target, 0), Due.BAD_VALUE);
                Due.is("plannedInlet(" + target + ", 999)", x.plannedInlet(target, 999), Due.BAD_VALUE);
            }
            for (int hour : new int[] {-1, -300, LEAST}) {
                Due.is("plannedInlet(2000, " + hour + ")", x.plannedInlet(2000, hour), Due.BAD_VALUE);
                Due.is("plannedInlet(0, " + hour + ")", x.plannedInlet(0, hour), Due.BAD_VALUE);
            }
            x.addBoard(3, 2000);
        }
    }

    private static void emptyPlans() {
        DryingKiln x = new DryingKiln();
        Due.is("plannedHours(0) without boards", x.plannedHours(0), 0);
        Due.is("plannedInlet(0, 0) without boards", x.plannedInlet(0, 0), Due.NONE);
        x.addBoard(3, 300);
        Due.is("the target is reached", x.plannedHours(300), 0);
        Due.is("no hour of an empty plan", x.plannedInlet(300, 0), Due.NONE);
        x.setLayer(0, 1, 302);
        Due.is("the target is reached by a rounded average", x.plannedHours(300), 0);
        x.setLayer(0, 1, 303);
        Due.is("an hour is needed", x.plannedHours(300), 1);
    }

    private static void theLowestInletThatLeavesNoCheck() {
        // moisture, strain limit, inlet; the faces lose (moisture - inlet) / 5, rounded toward zero.
        int[][] cases = {{500, 50, 250}, {504, 50, 250}, {505, 50, 260}, {500, 100, 0}, {1000, 199, 10}, {404, 20, 300}};
        for (int[] c : cases) {
            DryingKiln x = new DryingKiln();
            x.addBoard(3, c[0]);
            x.setStrainLimit(c[1]);
            Due.is("the first hour for " + c[0] + " and limit " + c[1], x.plannedInlet(c[0] - 1, 0), c[2]);
            Due.is("the hours for " + c[0] + " and limit " + c[1], x.plannedHours(c[0] - 1), 1);
            Due.is("no second hour for " + c[0] + " and limit " + c[1], x.plannedInlet(c[0] - 1, 1), Due.NONE);
        }
        DryingKiln y = new DryingKiln();
        y.addBoard(3, 100);
        y.addBoard(3, 505);
        y.setStrainLimit(50);
        y.setCapacity(10000);
        Due.is("the wetter board decides", y.plannedInlet(504, 0), 260);
        DryingKiln z = new DryingKiln();
        z.addBoard(3, 405);
        z.setStrainLimit(20);
        // Even 300 is too dry, and a rest changes nothing in an even board.
        Due.is("rests without an end", z.plannedHours(404), Due.NONE);
        Due.is("an hour of rests without an end", z.plannedInlet(404, 0), Due.NONE);
    }

    private static DryingKiln losingTwoAnHour(int innerMoisture) {
        DryingKiln x = new DryingKiln();
        x.addBoard(4, 1999);
        x.setLayer(0, 1, innerMoisture);
        x.setSurface(1);
        x.setDiffusion(1);
        x.setStrainLimit(900);
        return x;
    }

    private static void threeHundredHours() {
        // Each face loses 1 in an hour, nothing flows inside: after 300 hours 7395 / 4 = 1848, an hour before 1849.
        DryingKiln x = losingTwoAnHour(1998);
        Due.is("plannedHours of exactly 300 hours", x.plannedHours(1848), 300);
        Due.is("its last hour", x.plannedInlet(1848, 299), 0);
        Due.is("the hour after its last", x.plannedInlet(1848, 300), Due.NONE);
        Due.is("an hour far after its last", x.plannedInlet(1848, MOST), Due.NONE);
        Due.is("plannedHours of a lower target", x.plannedHours(1847), Due.NONE);
        Due.is("plannedInlet of a lower target", x.plannedInlet(1847, 0), Due.NONE);
        // 7996 - 2 * 300 = 7396 is still 4 * 1849.
        DryingKiln y = losingTwoAnHour(1999);
        Due.is("plannedHours of 301 hours", y.plannedHours(1848), Due.NONE);
        Due.is("plannedInlet of 301 hours", y.plannedInlet(1848, 0), Due.NONE);
        Due.is("plannedHours of 299 hours", y.plannedHours(1849), 299);
        y.dry(1);
        // The humidity of 120 still takes 1 from each face.
        Due.is("300 hours after a real one", y.plannedHours(1848), 300);
    }

    private static void restHours() {
        DryingKiln x = new DryingKiln();
        x.addBoard(3, 100);
        x.setLayer(0, 1, 500);
        Due.is("the strain at first", x.strain(0), 400);
        // In air of 300 the layers become 180, 420, 180, with a strain of 240; in a rest 140, 420, 140.
        Due.is("first a rest", x.plannedInlet(150, 0), Due.REST);
        // Then the middle falls to 364, and the faces stay at 164 or more if the air takes at most 4.
        Due.is("then moist air", x.plannedInlet(150, 1), 120);
        Due.is("planning records no check", x.checkHour(0), Due.NONE);
        Due.is("planning moves no water", x.layerMoisture(0, 1), 500);
        Due.is("planning gives off nothing", x.evaporated(), 0);
        Due.is("planning has no air", x.airMoisture(0), Due.NONE);
    }

    private static void checksHaveNoInfluence() {
        DryingKiln x = new DryingKiln();
        x.addBoard(3, 500);
        x.setLayer(0, 1, 900);
        x.rest(1);
        Due.is("a check of before", x.checkHour(0), 1);
        for (int i = 0; i < 3; i++) {
            x.setLayer(0, i, 500);
        }
        x.setStrainLimit(50);
        Due.is("a board with a check is planned like another", x.plannedInlet(400, 0), 250);
        Due.is("the check stays", x.checkHour(0), 1);
    }

    private static void fanAndCountersAreCopied() {
        int[][] cases = {{0, 0, 0}, {0, 1, 0}, {2, 0, 0}, {2, 0, 1}, {2, 1, 1}, {3, 0, 2}, {3, 1, 1}, {1, 0, 0}};
        for (int[] c : cases) {
            DryingKiln x = new DryingKiln();
            x.dry(1 + c[2]);
            x.setReversalPeriod(c[0]);
            x.setFan(c[1] == 1);
            x.addBoard(3, 900);
            x.addBoard(4, 880);
            x.addBoard(5, 300);
            x.setCapacity(3);
            x.setStrainLimit(150);
            ReferenceKiln model = new ReferenceKiln();
            model.dryingHours = 1 + c[2];
            model.period = c[0];
            model.reversed = c[1] == 1;
            model.capacity = 3;
            model.limit = 150;
            addTo(model, 3, 900);
            addTo(model, 4, 880);
            addTo(model, 5, 300);
            samePlan("period " + c[0] + ", fan " + c[1] + ", hours " + (1 + c[2]), x, model, 500);
            Due.is("planning leaves the fan", x.isFanReversed(), c[1]);
        }
    }

    private static void settingsAreCopied() {
        DryingKiln x = new DryingKiln();
        x.setDiffusion(250);
        x.setSurface(300);
        x.setCapacity(7);
        x.setStrainLimit(120);
        x.setHumidity(300);
        x.addStage(2000, 300);
        x.addBoard(9, 600);
        x.addBoard(7, 640);
        ReferenceKiln model = new ReferenceKiln();
        model.diffusion = 250;
        model.surface = 300;
        model.capacity = 7;
        model.limit = 120;
        addTo(model, 9, 600);
        addTo(model, 7, 640);
        samePlan("other settings, and a humidity and stage that do not count", x, model, 350);
    }

    private static void addTo(ReferenceKiln model, int layers, long moisture) {
        long[] m = new long[layers];
        java.util.Arrays.fill(m, moisture);
        model.boards.add(m);
        model.checks.add((long) Due.NONE);
        model.airs.add((long) Due.NONE);
    }

    private static void samePlan(String when, DryingKiln x, ReferenceKiln model, int target) {
        List<Long> inlets = model.plan(target, 300);
        Due.holds(when + ": a plan of some hours", inlets.size() > 5 && inlets.size() <= 300);
        Due.is(when + ": plannedHours", x.plannedHours(target), inlets.size());
        for (int hour = 0; hour < inlets.size(); hour++) {
            Due.is(when + ": plannedInlet at " + hour, x.plannedInlet(target, hour), inlets.get(hour));
        }
    }

    private static void aPlanCanBeFollowed() {
        DryingKiln x = new DryingKiln();
        x.addBoard(5, 700);
        x.addBoard(3, 650);
        x.setReversalPeriod(3);
        x.setStrainLimit(120);
        int hours = x.plannedHours(300);
        Due.holds("a plan of some hours", hours > 5);
        for (int hour = 0; hour < hours; hour++) {
            Due.is("the hours that are left", x.plannedHours(300), hours - hour);
            int inlet = x.plannedInlet(300, 0);
            if (inlet == Due.REST) {
                x.rest(1);
            } else {
                x.setHumidity(inlet);
                x.dry(1);
            }
        }
        Due.is("the target is reached", x.plannedHours(300), 0);
        Due.holds("board 0 is dry", x.averageMoisture(0) <= 300);
        Due.holds("board 1 is dry", x.averageMoisture(1) <= 300);
        Due.is("without a check of board 0", x.checkHour(0), Due.NONE);
        Due.is("without a check of board 1", x.checkHour(1), Due.NONE);
    }
}
