/** The four examples of the document, call by call. */
public final class ExamplesTest {
    public static void main(String[] args) {
        twoBoardsInTheSameAir();
        aCheckAndRestHours();
        aScheduleAndAPlan();
        theFanChangesItsDirection();
        Due.finish();
    }

    private static void twoBoardsInTheSameAir() {
        DryingKiln x = new DryingKiln();
        Due.is("1: addBoard(3, 600)", x.addBoard(3, 600), 0);
        Due.is("1: addBoard(3, 600) again", x.addBoard(3, 600), 1);
        Due.is("1: dry(1)", x.dry(1), 382);
        Due.is("1: layerMoisture(0, 0)", x.layerMoisture(0, 0), 504);
        Due.is("1: layerMoisture(0, 1)", x.layerMoisture(0, 1), 600);
        Due.is("1: layerMoisture(1, 0)", x.layerMoisture(1, 0), 505);
        Due.is("1: airMoisture(0)", x.airMoisture(0), 120);
        Due.is("1: airMoisture(1)", x.airMoisture(1), 123);
        Due.is("1: strain(0)", x.strain(0), 96);
        Due.is("1: evaporated()", x.evaporated(), 382);
        Due.is("1: totalWater()", x.totalWater(), 3218);
        Due.is("1: dry(1) again", x.dry(1), 304);
        Due.is("1: strain(0) again", x.strain(0), 145);
    }

    private static void aCheckAndRestHours() {
        DryingKiln x = new DryingKiln();
        Due.is("2: addBoard(5, 800)", x.addBoard(5, 800), 0);
        Due.is("2: setSurface(500)", x.setSurface(500), 200);
        Due.is("2: setHumidity(0)", x.setHumidity(0), 120);
        Due.is("2: dry(1)", x.dry(1), 800);
        Due.is("2: strain(0)", x.strain(0), 400);
        Due.is("2: checkHour(0)", x.checkHour(0), 1);
        Due.is("2: rest(3)", x.rest(3), 0);
        Due.is("2: strain(0) after the rest", x.strain(0), 282);
        Due.is("2: checkHour(0) after the rest", x.checkHour(0), 1);
        Due.is("2: addBoard(2, 800)", x.addBoard(2, 800), -1000003);
        Due.is("2: setLayer(0, 5, 100)", x.setLayer(0, 5, 100), -1000002);
    }

    private static void aScheduleAndAPlan() {
        DryingKiln x = new DryingKiln();
        Due.is("3: addBoard(3, 500)", x.addBoard(3, 500), 0);
        Due.is("3: addStage(600, 150)", x.addStage(600, 150), 0);
        Due.is("3: addStage(300, 60)", x.addStage(300, 60), 1);
        Due.is("3: addStage(300, 50)", x.addStage(300, 50), -1000003);
        Due.is("3: currentStage()", x.currentStage(), 0);
        Due.is("3: runSchedule(250, 100)", x.runSchedule(250, 100), 9);
        Due.is("3: currentStage() after it", x.currentStage(), 1);
        Due.is("3: averageMoisture(0)", x.averageMoisture(0), 250);
        Due.is("3: plannedHours(200)", x.plannedHours(200), 2);
        Due.is("3: plannedInlet(200, 0)", x.plannedInlet(200, 0), 0);
        Due.is("3: plannedHours(0)", x.plannedHours(0), -1000005);
    }

    private static void theFanChangesItsDirection() {
        DryingKiln x = new DryingKiln();
        Due.is("4: addBoard(3, 900)", x.addBoard(3, 900), 0);
        Due.is("4: addBoard(3, 300)", x.addBoard(3, 300), 1);
        Due.is("4: setReversalPeriod(2)", x.setReversalPeriod(2), 0);
        Due.is("4: dry(2)", x.dry(2), 684);
        Due.is("4: isFanReversed()", x.isFanReversed(), 1);
        Due.is("4: dry(2) again", x.dry(2), 468);
        Due.is("4: isFanReversed() again", x.isFanReversed(), 0);
        Due.is("4: wettestBoard()", x.wettestBoard(), 0);
        Due.is("4: sampleError(1)", x.sampleError(1), 179);
        Due.is("4: sampleError(4)", x.sampleError(4), -1000003);
    }
}
