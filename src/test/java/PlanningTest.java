import java.util.List;

/** Promises 28 and 29: planning. */
public final class PlanningTest {
    private static final int LEAST = Integer.MIN_VALUE;
    private static final int MOST = Integer.MAX_VALUE;

    public static void main(String[] args) {
        badValues();
        emptyPlans();
        Due.finish();
    }

    private static void badValues() {
        DryingKiln x = new DryingKiln();
        for (int i = 0; i < 2; i++) {
            for (int target : new int[] {-1, 2001, LEAST, MOST}) {
                Due.is("plannedHours(" + target + ")", x.plannedHours(target), Due.BAD_VALUE);
                Due.is("plannedInlet(" + target + ", 0)", x.plannedInlet(target, 0), Due.BAD_VALUE);
                Due.is("plannedInlet(" + target + ", 999)", x.plannedInlet(target, 999), Due.BAD_VALUE);
            }
            for (int hour : new int[] {-1, -300, LEAST}) {
                Due.is("plannedInlet(2000, " + hour + ")", x.plannedInlet(2000, hour), Due.BAD_VALUE);
                Due.is("plannedInlet(0, " + hour + ")", x.plannedInlet(0, hour), Due.BAD_VALUE);
            }
            x.addBoard(3, 2000);
        }
    }

    private static void emptyPlans() {
        DryingKiln x = new DryingKiln();
        Due.is("plannedHours(0) without boards", x.plannedHours(0), 0);
        Due.is("plannedInlet(0, 0) without boards", x.plannedInlet(0, 0), Due.NONE);
        x.addBoard(3, 300);
        Due.is("the target is reached", x.plannedHours(300), 0);
        Due.is("no hour of an empty plan", x.plannedInlet(300, 0), Due.NONE);
        x.setLayer(0, 1, 302);
        Due.is("the target is reached by a rounded average", x.plannedHours(300), 0);
        x.setLayer(0, 1, 303);
        Due.is("an hour is needed", x.plannedHours(300), 1);
    }
}
