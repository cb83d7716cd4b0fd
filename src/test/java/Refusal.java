import java.util.function.Consumer;
import java.util.function.ToIntFunction;

/**
 * Tells whether a call changed anything: of two kilns made alike only one gets the call, and then both have to give
 * the same answers to a long row of calls, which brings the hidden counters and the stages to light too.
 */
final class Refusal {
    private static final int[] MOISTURES_THAT_SHOW_STAGES = {2000, 800, 700, 600, 500, 400, 300, 200, 100};

    private Refusal() {
    }

    /** The call answers the error in a kiln made by setup, and changes nothing. */
    static void is(String name, Consumer<DryingKiln> setup, ToIntFunction<DryingKiln> call, int error) {
        DryingKiln asked = new DryingKiln();
        DryingKiln spared = new DryingKiln();
        setup.accept(asked);
        setup.accept(spared);
        Due.is(name, call.applyAsInt(asked), error);
        same(name, asked, spared);
    }

    /** The call answers the error in an empty kiln, in one with a board, and in a full one that has run. */
    static void isEverywhere(String name, ToIntFunction<DryingKiln> call, int error) {
        is(name + " in an empty kiln", Kilns::leaveEmpty, call, error);
        is(name + " with one board", x -> x.addBoard(3, 500), call, error);
        is(name + " in a full kiln", Kilns::useMuch, call, error);
    }

    /** The call, whatever it answers, changes nothing. */
    static void changesNothing(String name, Consumer<DryingKiln> setup, ToIntFunction<DryingKiln> call) {
        DryingKiln asked = new DryingKiln();
        DryingKiln spared = new DryingKiln();
        setup.accept(asked);
        setup.accept(spared);
        call.applyAsInt(asked);
        same(name, asked, spared);
    }

    static void same(String name, DryingKiln asked, DryingKiln spared) {
        String got = answers(asked);
        String want = answers(spared);
        Due.holds(name + " changes nothing", got.equals(want));
    }

    /** At most 260 calls, so that the setup has the other 250 of an object's 512; the kiln is another one afterwards. */
    private static String answers(DryingKiln x) {
        StringBuilder s = new StringBuilder();
        readBoards(x, s);
        readCounters(x, s);
        readPlan(x, s);
        readSettings(x, s);
        readDryingHours(x, s);
        readStages(x, s);
        return s.toString();
    }

    private static void readBoards(DryingKiln x, StringBuilder s) {
        for (int b = 0; b < 6; b++) {
            for (int i = 0; i < 9; i++) {
                s.append(x.layerMoisture(b, i)).append(' ');
            }
            s.append(x.averageMoisture(b)).append(' ').append(x.strain(b)).append(' ');
            s.append(x.checkHour(b)).append(' ').append(x.airMoisture(b)).append('\n');
        }
    }

    private static void readCounters(DryingKiln x, StringBuilder s) {
        s.append(x.hour()).append(' ').append(x.evaporated()).append(' ').append(x.totalWater()).append(' ');
        s.append(x.isFanReversed()).append(' ').append(x.wettestBoard()).append(' ').append(x.currentStage()).append('\n');
    }

    private static void readPlan(DryingKiln x, StringBuilder s) {
        s.append(x.plannedHours(300)).append(' ').append(x.plannedInlet(300, 0)).append('\n');
    }

    /** A setter answers what the setting was; what is set here dries fast. */
    private static void readSettings(DryingKiln x, StringBuilder s) {
        s.append(x.setDiffusion(250)).append(' ').append(x.setSurface(500)).append(' ').append(x.setCapacity(10000)).append(' ');
        s.append(x.setStrainLimit(900)).append(' ').append(x.setHumidity(0)).append(' ').append(x.setReversalPeriod(13)).append('\n');
    }

    /** The hour in which the fan turns tells the counter of drying hours. */
    private static void readDryingHours(DryingKiln x, StringBuilder s) {
        for (int i = 0; i < 13; i++) {
            s.append(x.dry(1)).append(' ').append(x.isFanReversed()).append(' ');
        }
        s.append('\n');
    }

    /** With the other boards dry, board 0 alone decides which stage applies. */
    private static void readStages(DryingKiln x, StringBuilder s) {
        s.append(x.dry(200)).append(' ').append(x.addBoard(3, 0)).append(' ');
        for (int moisture : MOISTURES_THAT_SHOW_STAGES) {
            for (int i = 0; i < 9; i++) {
                s.append(x.setLayer(0, i, moisture)).append(' ');
            }
            s.append(x.currentStage()).append(' ').append(x.runSchedule(0, 1)).append(' ').append(x.airMoisture(0)).append(' ');
        }
        s.append(x.clearStages()).append('\n');
    }
}
