/** The boundary cases of promises 19 to 23, and of the document's description of an hour. */
public final class HourEdgesTest {
    private static final int LEAST = Integer.MIN_VALUE;
    private static final int MOST = Integer.MAX_VALUE;
    private static final int[] BAD_HOURS = {0, 201, -1, -200, LEAST, LEAST + 200, MOST};
    private static final int[] NO_BOARD_OF_SIX = {-1, 6, 7, 31, 32, LEAST, MOST};

    public static void main(String[] args) {
        airIsAtLeast0();
        airIsAsMoistAsTheWettestBoard();
        airRoundsTowardZero();
        flowsRoundTowardZero();
        flowsComeFromTheHoursStart();
        flowsOfEveryNumberOfLayers();
        moistureIsNeverNegative();
        dryFrom1To200Hours();
        dryRefusedChangesNothing();
        dryWithoutBoards();
        dryCanBeNegative();
        dryHeedsNoStage();
        dry200IsTwoHundredTimesDry1();
        restFrom1To200Hours();
        restRefusedChangesNothing();
        restWithoutBoards();
        restCountsBoardsNotHours();
        restInvolvesNoAir();
        rest200IsTwoHundredTimesRest1();
        endOfHourTheNewHourIsTheChecks();
        endOfHourChecksFirstAndLastBoard();
        hourCountsEveryKindOfHour();
        hourAtTheLastPromisedCall();
        evaporatedCountsDryingHoursAlone();
        evaporatedCanBeNegative();
        airMoistureNoneBeforeAnyDryingHour();
        airMoistureNoneForALaterBoard();
        airMoistureOfTheLatestHour();
        airMoistureErrors();
        Due.finish();
    }

    // ---- a drying hour

    /** "but at least 0": within the ranges of the settings the air just comes down to 0. */
    private static void airIsAtLeast0() {
        for (int humidity : new int[] {0, 1, 2, 299, 300}) {
            DryingKiln x = Kilns.withEvenBoards(6, 3, 0);
            x.setCapacity(1);
            x.setSurface(500);
            x.setHumidity(humidity);
            Due.is("dry boards in air of " + humidity, x.dry(1), -(humidity - humidity % 2));
            Due.is("the air before them", x.airMoisture(0), humidity);
            for (int board = 1; board < 6; board++) {
                Due.is("the air at board " + board, x.airMoisture(board), humidity % 2);
            }
            Kilns.layersAre("the last board gains nothing", x, 5, 0, 0, 0);
        }
    }

    private static void airIsAsMoistAsTheWettestBoard() {
        DryingKiln x = Kilns.withEvenBoards(5, 3, 2000);
        x.addBoard(9, 0);
        x.setCapacity(1);
        x.setSurface(500);
        x.setHumidity(300);
        Due.is("wet boards at a capacity of 1", x.dry(1), 1700 - 2000);
        for (int board = 1; board < 6; board++) {
            Due.is("the air at board " + board, x.airMoisture(board), 2000);
        }
        Kilns.layersAre("the second board neither gains nor loses", x, 1, 2000, 2000, 2000);
        Kilns.layersAre("the dry board gains", x, 5, 1000, 0, 0, 0, 0, 0, 0, 0, 1000);
    }

    private static void airRoundsTowardZero() {
        // humidity, face moistures of board 0, water it gives off, air at board 1, with a capacity of 50
        int[][] cases = {
            {120, 245, 240, 49, 120}, {120, 245, 245, 50, 121}, {120, 365, 365, 98, 121}, {120, 370, 370, 100, 122},
            {300, 175, 180, -49, 300}, {300, 175, 175, -50, 299}, {300, 55, 50, -99, 299}, {300, 50, 50, -100, 298}};
        for (int[] c : cases) {
            DryingKiln x = Kilns.withLayers(c[1], c[1], c[1], c[2], c[2]);
            x.setDiffusion(1);
            x.setHumidity(c[0]);
            Due.is("water given off", x.dry(1), c[3]);
            DryingKiln y = Kilns.withLayers(c[1], c[1], c[1], c[2], c[2]);
            y.addBoard(3, 0);
            y.setDiffusion(1);
            y.setHumidity(c[0]);
            y.dry(1);
            Due.is("air of " + c[0] + " after water of " + c[3], y.airMoisture(1), c[4]);
        }
    }

    private static void flowsRoundTowardZero() {
        // Differences from the air of 120, and a fifth of them.
        int[][] faces = {{0, 0}, {4, 0}, {5, 1}, {9, 1}, {10, 2}, {-4, 0}, {-5, -1}, {-9, -1}, {-10, -2}, {-120, -24}};
        for (int[] top : faces) {
            for (int[] bottom : faces) {
                DryingKiln x = Kilns.withLayers(120 + top[0], 120, 120 + bottom[0]);
                x.setDiffusion(1);
                String when = "faces " + top[0] + " and " + bottom[0];
                Due.is(when, x.dry(1), top[1] + bottom[1]);
                Kilns.layersAre(when, x, 0, 120 + top[0] - top[1], 120, 120 + bottom[0] - bottom[1]);
            }
        }
        int[][] inner = {{9, 0}, {10, 1}, {19, 1}, {20, 2}, {-9, 0}, {-10, -1}, {-19, -1}, {-20, -2}};
        for (int[] d : inner) {
            DryingKiln x = Kilns.withLayers(500 + d[0], 500, 500);
            x.rest(1);
            Kilns.layersAre("a difference of " + d[0], x, 0, 500 + d[0] - d[1], 500 + d[1], 500);
            DryingKiln y = Kilns.withLayers(500, 500, 500 + d[0]);
            y.rest(1);
            Kilns.layersAre("a difference of " + d[0] + " below", y, 0, 500, 500 + d[1], 500 + d[0] - d[1]);
        }
    }

    private static void flowsComeFromTheHoursStart() {
        DryingKiln x = Kilns.withLayers(0, 1000, 0, 1000, 0, 1000, 0, 1000, 0);
        x.setDiffusion(250);
        x.rest(1);
        Kilns.layersAre("rest(1) of waves", x, 0, 250, 500, 500, 500, 500, 500, 500, 500, 250);
        DryingKiln y = Kilns.withLayers(1000, 0, 1000, 0, 1000, 0, 1000, 0, 1000);
        y.setDiffusion(250);
        y.setSurface(500);
        y.setHumidity(0);
        Due.is("dry(1) of waves", y.dry(1), 1000);
        Kilns.layersAre("dry(1) of waves", y, 0, 250, 500, 500, 500, 500, 500, 500, 500, 250);
    }

    private static void flowsOfEveryNumberOfLayers() {
        for (int layers = 3; layers <= 9; layers++) {
            DryingKiln x = Kilns.withEvenBoards(1, layers, 620);
            Due.is("dry(2) of " + layers + " layers", x.dry(2), 200 + 160);
            // First 520 at the faces; then they lose 80 and gain 10 from inside.
            int[] row = Kilns.even(layers, 620);
            row[0] = 450;
            row[layers - 1] = 450;
            row[1] -= 10;
            row[layers - 2] -= 10;
            Kilns.layersAre("dry(2) of " + layers + " layers", x, 0, row);
        }
    }

    /** "Each layer has a moisture, which is never negative": rows of 0, 1, 2, 3 and 2000 at the greatest flows. */
    private static void moistureIsNeverNegative() {
        int[] moistures = {0, 1, 2, 3, 2000};
        for (int row = 0; row < 625; row++) {
            for (int humidity : new int[] {0, 300}) {
                DryingKiln x = new DryingKiln();
                int[] layers = {moistures[row % 5], moistures[row / 5 % 5], moistures[row / 25 % 5], moistures[row / 125]};
                Kilns.addLayers(x, layers);
                Kilns.addLayers(x, layers[3], layers[1], layers[0]);
                x.setSurface(500);
                x.setDiffusion(250);
                x.setCapacity(1);
                x.setHumidity(humidity);
                for (int hour = 1; hour <= 3; hour++) {
                    x.dry(1);
                    for (int layer = 0; layer < 7; layer++) {
                        int m = layer < 4 ? x.layerMoisture(0, layer) : x.layerMoisture(1, layer - 4);
                        Due.holds("row " + row + ", hour " + hour + ": " + m, m >= 0 && m <= 2000);
                    }
                    Due.holds("row " + row + ", hour " + hour + ": the air", x.airMoisture(1) >= 0);
                }
            }
        }
    }

    // ---- promise 19: dry

    private static void dryFrom1To200Hours() {
        for (int hours : new int[] {1, 2, 199, 200}) {
            DryingKiln x = Kilns.withEvenBoards(1, 3, 620);
            int water = x.totalWater();
            int given = x.dry(hours);
            Due.is("hour() after dry(" + hours + ")", x.hour(), hours);
            Due.is("the water of dry(" + hours + ")", given, water - x.totalWater());
        }
        for (int hours : BAD_HOURS) {
            Due.is("dry(" + hours + ")", new DryingKiln().dry(hours), Due.BAD_VALUE);
        }
    }

    private static void dryRefusedChangesNothing() {
        for (int hours : new int[] {0, 201, -1, LEAST, MOST}) {
            Refusal.isEverywhere("dry(" + hours + ")", x -> x.dry(hours), Due.BAD_VALUE);
        }
    }

    private static void dryWithoutBoards() {
        DryingKiln x = new DryingKiln();
        Due.is("dry(1) without boards", x.dry(1), 0);
        Due.is("dry(200) without boards", x.dry(200), 0);
        Due.is("hour() without boards", x.hour(), 201);
        Due.is("evaporated() without boards", x.evaporated(), 0);
    }

    private static void dryCanBeNegative() {
        DryingKiln x = Kilns.withEvenBoards(1, 3, 0);
        x.setHumidity(300);
        Due.is("dry(1) of a dry board", x.dry(1), -120);
        Kilns.layersAre("a dry board gains water", x, 0, 60, 0, 60);
        DryingKiln y = Kilns.withEvenBoards(1, 3, 300);
        y.setHumidity(300);
        Due.is("dry(200) in air that is as moist", y.dry(200), 0);
    }

    private static void dryHeedsNoStage() {
        DryingKiln x = Kilns.withEvenBoards(1, 3, 500);
        x.addStage(2000, 300);
        x.dry(1);
        Due.is("dry(1) is at the humidity setting", x.airMoisture(0), 120);
    }

    private static void dry200IsTwoHundredTimesDry1() {
        DryingKiln one = new DryingKiln();
        DryingKiln many = new DryingKiln();
        Kilns.useMuch(one);
        Kilns.useMuch(many);
        int sum = 0;
        for (int i = 0; i < 200; i++) {
            sum += one.dry(1);
        }
        Due.is("dry(200)", many.dry(200), sum);
        for (int board = 0; board < 6; board++) {
            Due.is("checkHour(" + board + ")", many.checkHour(board), one.checkHour(board));
            Due.is("airMoisture(" + board + ")", many.airMoisture(board), one.airMoisture(board));
            Due.is("averageMoisture(" + board + ")", many.averageMoisture(board), one.averageMoisture(board));
            Due.is("strain(" + board + ")", many.strain(board), one.strain(board));
        }
        Due.is("isFanReversed()", many.isFanReversed(), one.isFanReversed());
        Due.is("evaporated()", many.evaporated(), one.evaporated());
        Due.is("hour()", many.hour(), one.hour());
    }

    // ---- promise 20: rest

    private static void restFrom1To200Hours() {
        for (int hours : new int[] {1, 2, 199, 200}) {
            DryingKiln x = Kilns.withLayers(0, 100, 0);
            Due.is("rest(" + hours + ")", x.rest(hours), 0);
            Due.is("hour() after rest(" + hours + ")", x.hour(), hours);
        }
        for (int hours : BAD_HOURS) {
            Due.is("rest(" + hours + ")", new DryingKiln().rest(hours), Due.BAD_VALUE);
        }
    }

    private static void restRefusedChangesNothing() {
        for (int hours : new int[] {0, 201, -1, LEAST, MOST}) {
            Refusal.isEverywhere("rest(" + hours + ")", x -> x.rest(hours), Due.BAD_VALUE);
        }
    }

    private static void restWithoutBoards() {
        DryingKiln x = new DryingKiln();
        Due.is("rest(1) without boards", x.rest(1), 0);
        Due.is("rest(200) without boards", x.rest(200), 0);
        Due.is("hour() without boards", x.hour(), 201);
    }

    private static void restCountsBoardsNotHours() {
        for (int strained = 0; strained <= 6; strained++) {
            DryingKiln x = Kilns.withEvenBoards(6, 3, 0);
            x.setDiffusion(1);
            for (int board = 0; board < strained; board++) {
                x.setLayer(5 - board, 1, 201);
            }
            Due.is("rest(200) with " + strained + " strained boards", x.rest(200), strained);
            Due.is("rest(1) after it", x.rest(1), 0);
        }
        DryingKiln y = Kilns.withEvenBoards(1, 3, 620);
        y.setStrainLimit(95);
        y.dry(1);
        Due.is("the check of a drying hour", y.checkHour(0), 1);
        Due.is("is not counted by a rest", y.rest(1), 0);
        // The middle loses 28 to each face; the strain that counts is that at the end of the hour.
        Due.is("286 becomes 230 - 28", Kilns.withLayers(0, 286, 0).rest(1), 1);
        Due.is("285 becomes 229 - 28", Kilns.withLayers(0, 285, 0).rest(1), 1);
        Due.is("284 becomes 228 - 28, the limit", Kilns.withLayers(0, 284, 0).rest(1), 0);
    }

    private static void restInvolvesNoAir() {
        DryingKiln x = Kilns.withEvenBoards(2, 3, 620);
        x.setHumidity(0);
        x.rest(1);
        Due.is("rest(1) before any drying hour", x.airMoisture(0), Due.NONE);
        Kilns.layersAre("rest(1) of an even board", x, 0, 620, 620, 620);
        x.setHumidity(120);
        x.dry(1);
        x.rest(200);
        Due.is("rest(200) leaves the air", x.airMoisture(1), 124);
        Due.is("rest(200) leaves the evaporated water", x.evaporated(), 398);
        Due.is("rest(200) leaves the water", x.totalWater(), 3720 - 398);
    }

    private static void rest200IsTwoHundredTimesRest1() {
        DryingKiln one = new DryingKiln();
        DryingKiln many = new DryingKiln();
        int sum = 0;
        for (DryingKiln x : new DryingKiln[] {one, many}) {
            Kilns.fill(x);
            x.setStrainLimit(20);
            for (int board = 0; board < 6; board++) {
                x.setLayer(board, 1, 300 * board);
            }
        }
        for (int i = 0; i < 200; i++) {
            sum += one.rest(1);
        }
        Due.is("rest(200)", many.rest(200), sum);
        for (int board = 0; board < 6; board++) {
            for (int layer = 0; layer < 9; layer++) {
                Due.is("layerMoisture(" + board + ", " + layer + ")", many.layerMoisture(board, layer), one.layerMoisture(board, layer));
            }
            Due.is("checkHour(" + board + ")", many.checkHour(board), one.checkHour(board));
        }
    }

    // ---- the end of an hour

    /** "the hour of the check is the new value of the hour counter". */
    private static void endOfHourTheNewHourIsTheChecks() {
        for (int before : new int[] {0, 1, 200}) {
            for (int kind = 0; kind < 3; kind++) {
                DryingKiln x = new DryingKiln();
                if (before > 0) {
                    x.rest(before);
                }
                Kilns.addLayers(x, 0, 900, 0);
                int ran = kind == 0 ? x.dry(1) : kind == 1 ? x.rest(1) : x.runSchedule(0, 1);
                Due.holds("an hour of kind " + kind, ran != Due.BAD_VALUE);
                Due.is("the check after " + before + " hours, kind " + kind, x.checkHour(0), before + 1);
            }
        }
    }

    private static void endOfHourChecksFirstAndLastBoard() {
        for (int strained = 0; strained < 6; strained++) {
            DryingKiln x = Kilns.withEvenBoards(6, 5, 100);
            x.setLayer(strained, 2, 800);
            Due.is("one strained board", x.rest(1), 1);
            for (int board = 0; board < 6; board++) {
                Due.is("checkHour(" + board + ")", x.checkHour(board), board == strained ? 1 : Due.NONE);
            }
        }
    }

    // ---- promise 21: hour

    private static void hourCountsEveryKindOfHour() {
        DryingKiln x = Kilns.withEvenBoards(1, 3, 2000);
        Due.is("hour() at first", x.hour(), 0);
        x.dry(1);
        Due.is("hour() after dry(1)", x.hour(), 1);
        x.rest(1);
        Due.is("hour() after rest(1)", x.hour(), 2);
        x.runSchedule(0, 1);
        Due.is("hour() after runSchedule(0, 1)", x.hour(), 3);
        x.runSchedule(2000, 200);
        Due.is("hour() after a schedule without hours", x.hour(), 3);
        x.plannedHours(500);
        x.plannedInlet(500, 0);
        Due.is("hour() after a plan", x.hour(), 3);
        x.dry(201);
        x.rest(0);
        x.runSchedule(0, 201);
        Due.is("hour() after refused calls", x.hour(), 3);
        x.dry(200);
        x.rest(200);
        Due.is("hour() after 400 more", x.hour(), 403);
        Refusal.changesNothing("hour()", Kilns::useMuch, k -> k.hour());
    }

    /** "An object is used for at most 512 calls". */
    private static void hourAtTheLastPromisedCall() {
        DryingKiln x = Kilns.withEvenBoards(6, 9, 2000);
        x.setReversalPeriod(7);
        int given = 0;
        for (int call = 7; call < 509; call++) {
            given += x.dry(200);
        }
        Due.is("hour() as call 510", x.hour(), 502 * 200);
        Due.is("evaporated() as call 511", x.evaporated(), given);
        Due.is("totalWater() as call 512", x.totalWater(), 108000 - given);
    }

    // ---- promise 22: evaporated

    private static void evaporatedCountsDryingHoursAlone() {
        DryingKiln x = Kilns.withEvenBoards(1, 3, 620);
        x.rest(1);
        Due.is("evaporated() before any drying hour", x.evaporated(), 0);
        Due.is("dry(1)", x.dry(1), 200);
        Due.is("evaporated() after the first", x.evaporated(), 200);
        Due.is("dry(201)", x.dry(201), Due.BAD_VALUE);
        Due.is("evaporated() after a refused call", x.evaporated(), 200);
        x.rest(1);
        // The rest hour brought 10 to each face: (530 - 120) / 5.
        Due.is("dry(1) after a rest", x.dry(1), 164);
        Due.is("evaporated() is the sum", x.evaporated(), 364);
        int water = x.totalWater();
        x.addStage(2000, 0);
        x.runSchedule(0, 3);
        Due.is("evaporated() after scheduled hours", x.evaporated(), 364 + water - x.totalWater());
        int before = x.evaporated();
        x.plannedHours(100);
        x.addBoard(3, 2000);
        x.setLayer(0, 0, 0);
        Due.is("evaporated() after what is no hour", x.evaporated(), before);
        Refusal.changesNothing("evaporated()", Kilns::useMuch, k -> k.evaporated());
    }

    private static void evaporatedCanBeNegative() {
        DryingKiln x = Kilns.withEvenBoards(1, 3, 0);
        x.setHumidity(300);
        x.dry(1);
        Due.is("evaporated() after a gain", x.evaporated(), -120);
        x.addStage(2000, 300);
        x.setLayer(0, 0, 0);
        x.setLayer(0, 1, 3);
        x.setLayer(0, 2, 0);
        Due.is("a scheduled hour", x.runSchedule(0, 1), 1);
        Due.is("evaporated() after a scheduled gain", x.evaporated(), -240);
    }

    // ---- promise 23: airMoisture

    private static void airMoistureNoneBeforeAnyDryingHour() {
        DryingKiln x = Kilns.full();
        x.rest(3);
        x.plannedHours(500);
        x.runSchedule(2000, 200);
        x.dry(0);
        for (int board = 0; board < 6; board++) {
            Due.is("airMoisture(" + board + ") without a drying hour", x.airMoisture(board), Due.NONE);
        }
    }

    private static void airMoistureNoneForALaterBoard() {
        DryingKiln x = new DryingKiln();
        x.dry(1);
        for (int board = 0; board < 6; board++) {
            x.addBoard(3, 120);
            Due.is("board " + board + " was added after the hour", x.airMoisture(board), Due.NONE);
            if (board > 0) {
                Due.is("the board before it was not", x.airMoisture(board - 1), 120);
            }
            x.rest(1);
            Due.is("a rest hour is no drying hour", x.airMoisture(board), Due.NONE);
            x.dry(1);
            Due.is("board " + board + " has air then", x.airMoisture(board), 120);
        }
    }

    private static void airMoistureOfTheLatestHour() {
        DryingKiln x = Kilns.withEvenBoards(1, 3, 620);
        for (int humidity : new int[] {0, 300, 7}) {
            x.setHumidity(humidity);
            x.dry(1);
            Due.is("air of " + humidity, x.airMoisture(0), humidity);
        }
        x.setHumidity(9);
        x.rest(1);
        x.dry(0);
        x.plannedHours(100);
        x.plannedInlet(100, 0);
        x.runSchedule(2000, 1);
        Due.is("no drying hour has been since", x.airMoisture(0), 7);
        x.addStage(2000, 300);
        x.runSchedule(0, 1);
        Due.is("a scheduled hour has", x.airMoisture(0), 300);
        DryingKiln y = Kilns.withEvenBoards(2, 3, 620);
        y.dry(2);
        // 2 * (520 - 120) / 5 = 160, divided by 50.
        Due.is("the latest of two hours", y.airMoisture(1), 123);
    }

    private static void airMoistureErrors() {
        DryingKiln x = Kilns.full();
        for (int round = 0; round < 2; round++) {
            for (int board : NO_BOARD_OF_SIX) {
                Due.is("airMoisture(" + board + ")", x.airMoisture(board), Due.NO_SUCH_BOARD);
            }
            x.dry(1);
        }
        DryingKiln y = Kilns.withEvenBoards(1, 3, 5);
        Due.is("airMoisture(1) of one board", y.airMoisture(1), Due.NO_SUCH_BOARD);
        Refusal.changesNothing("airMoisture(6)", Kilns::useMuch, k -> k.airMoisture(6));
        Refusal.changesNothing("airMoisture(5)", Kilns::useMuch, k -> k.airMoisture(5));
    }
}
