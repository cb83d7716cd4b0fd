/** The boundary cases of promises 1 to 10, a method for each sentence that names one. */
public final class BoardEdgesTest {
    private static final int LEAST = Integer.MIN_VALUE;
    private static final int MOST = Integer.MAX_VALUE;
    private static final int[] NO_BOARD_OF_SIX = {-1, 6, 7, 31, 32, LEAST, MOST};

    public static void main(String[] args) {
        newKilnIsEmpty();
        newKilnHasNoStages();
        newKilnHasCountersOf0();
        newKilnHasTheInitialSettings();
        newKilnIsApartFromOthers();
        addBoardFrom3To9Layers();
        addBoardFrom0To2000();
        addBoardUpToSix();
        addBoardBadValueBeforeFull();
        addBoardRefusedChangesNothing();
        addBoardRecordsNothingOfBefore();
        setLayerFrom0To2000();
        setLayerFirstAndLastBoardAndLayer();
        setLayerOrderOfErrors();
        setLayerRefusedChangesNothing();
        setLayerIsNoEvaporation();
        setLayerRecordsNoCheck();
        layerMoistureFirstAndLast();
        layerMoistureErrors();
        averageMoistureRoundsDown();
        averageMoistureLeastAndGreatest();
        averageMoistureOfBoards();
        strainLeastAndGreatest();
        strainHeedsOutermostLayersAlone();
        strainOfBoards();
        checkHourAtTheLimit();
        checkHourIsTheFirst();
        checkHourErrors();
        wettestBoardWithoutBoards();
        wettestBoardOfEquals();
        wettestBoardFirstAndLast();
        totalWaterLeastAndGreatest();
        sampleErrorEmptySample();
        sampleErrorBitsOfMissingBoards();
        sampleErrorFirstLastAndAll();
        sampleErrorMeansRoundDown();
        sampleErrorLeastAndGreatest();
        Due.finish();
    }

    // ---- promise 1: a new object

    private static void newKilnIsEmpty() {
        DryingKiln x = new DryingKiln();
        Due.is("new: layerMoisture(0, 0)", x.layerMoisture(0, 0), Due.NO_SUCH_BOARD);
        Due.is("new: setLayer(0, 0, 0)", x.setLayer(0, 0, 0), Due.NO_SUCH_BOARD);
        Due.is("new: averageMoisture(0)", x.averageMoisture(0), Due.NO_SUCH_BOARD);
        Due.is("new: strain(0)", x.strain(0), Due.NO_SUCH_BOARD);
        Due.is("new: checkHour(0)", x.checkHour(0), Due.NO_SUCH_BOARD);
        Due.is("new: airMoisture(0)", x.airMoisture(0), Due.NO_SUCH_BOARD);
        Due.is("new: wettestBoard()", x.wettestBoard(), Due.NONE);
        Due.is("new: totalWater()", x.totalWater(), 0);
        Due.is("new: sampleError(1)", x.sampleError(1), Due.BAD_VALUE);
        Due.is("new: plannedHours(0)", x.plannedHours(0), 0);
        Due.is("new: runSchedule(0, 200)", x.runSchedule(0, 200), 0);
        Due.is("new: the first board", x.addBoard(3, 0), 0);
    }

    private static void newKilnHasNoStages() {
        DryingKiln x = new DryingKiln();
        Due.is("new: clearStages()", x.clearStages(), 0);
        x.addBoard(3, 0);
        Due.is("new: no stage even for a dry board", x.currentStage(), Due.NONE);
        Due.is("new: the first stage", x.addStage(2000, 0), 0);
    }

    private static void newKilnHasCountersOf0() {
        DryingKiln x = new DryingKiln();
        Due.is("new: hour()", x.hour(), 0);
        Due.is("new: evaporated()", x.evaporated(), 0);
        for (int period : new int[] {1, 2, 3, 47, 48}) {
            DryingKiln y = new DryingKiln();
            y.setReversalPeriod(period);
            for (int i = 1; i <= period; i++) {
                y.dry(1);
                Due.is("new: period " + period + " after " + i + " drying hours", y.isFanReversed(), i == period ? 1 : 0);
            }
        }
    }

    private static void newKilnHasTheInitialSettings() {
        DryingKiln x = new DryingKiln();
        x.addBoard(3, 620);
        x.addBoard(3, 620);
        x.setLayer(0, 1, 640);
        // Faces of board 0: -(620 - 120) * 200 / 1000 + 20 * 100 / 1000; it gives off 200, and 200 / 50 = 4.
        Due.is("new: dry(1)", x.dry(1), 200 + 2 * 99);
        Kilns.layersAre("new: surface, humidity and diffusion", x, 0, 522, 636, 522);
        Due.is("new: humidity", x.airMoisture(0), 120);
        Due.is("new: capacity and fan", x.airMoisture(1), 124);
        DryingKiln y = Kilns.withLayers(0, 200, 0);
        y.setDiffusion(1);
        Due.is("new: a strain of 200 is no check", y.rest(1), 0);
        y.setLayer(0, 1, 201);
        Due.is("new: a strain of 201 is one", y.rest(1), 1);
        DryingKiln z = new DryingKiln();
        z.dry(200);
        Due.is("new: the fan does not turn by itself", z.isFanReversed(), 0);
        Due.is("new: setDiffusion", z.setDiffusion(1), 100);
        Due.is("new: setSurface", z.setSurface(1), 200);
        Due.is("new: setCapacity", z.setCapacity(1), 50);
        Due.is("new: setStrainLimit", z.setStrainLimit(20), 200);
        Due.is("new: setHumidity", z.setHumidity(0), 120);
        Due.is("new: setReversalPeriod", z.setReversalPeriod(1), 0);
    }

    private static void newKilnIsApartFromOthers() {
        DryingKiln before = new DryingKiln();
        DryingKiln used = new DryingKiln();
        Kilns.useMuch(used);
        used.plannedHours(300);
        Refusal.same("a kiln made before another was used", before, new DryingKiln());
    }

    // ---- promise 2: addBoard

    private static void addBoardFrom3To9Layers() {
        for (int layers = 3; layers <= 9; layers++) {
            DryingKiln x = new DryingKiln();
            Due.is("addBoard(" + layers + ", 70)", x.addBoard(layers, 70), 0);
            Kilns.layersAre("addBoard(" + layers + ", 70)", x, 0, Kilns.even(layers, 70));
        }
        for (int layers : new int[] {2, 10, 1, 0, -1, -3, -9, 11, LEAST, LEAST + 3, MOST}) {
            Refusal.is("addBoard(" + layers + ", 70)", Kilns::leaveEmpty, x -> x.addBoard(layers, 70), Due.BAD_VALUE);
        }
    }

    private static void addBoardFrom0To2000() {
        for (int moisture : new int[] {0, 1, 1999, 2000}) {
            DryingKiln x = new DryingKiln();
            Due.is("addBoard(3, " + moisture + ")", x.addBoard(3, moisture), 0);
            Kilns.layersAre("addBoard(3, " + moisture + ")", x, 0, moisture, moisture, moisture);
        }
        for (int moisture : new int[] {-1, 2001, -2000, LEAST, MOST}) {
            Refusal.is("addBoard(3, " + moisture + ")", Kilns::leaveEmpty, x -> x.addBoard(3, moisture), Due.BAD_VALUE);
        }
    }

    private static void addBoardUpToSix() {
        DryingKiln x = new DryingKiln();
        for (int i = 0; i < 6; i++) {
            Due.is("there is no board " + i + " yet", x.layerMoisture(i, 0), Due.NO_SUCH_BOARD);
            Due.is("a refused board takes no number", x.addBoard(2, 0), Due.BAD_VALUE);
            Due.is("board " + i, x.addBoard(3 + i, 10 * i), i);
            Due.is("board " + i + " is there", x.layerMoisture(i, 2 + i), 10 * i);
        }
        Due.is("the seventh board", x.addBoard(3, 0), Due.FULL);
        Due.is("the seventh board again", x.addBoard(9, 2000), Due.FULL);
        Due.is("there is no board 6", x.layerMoisture(6, 0), Due.NO_SUCH_BOARD);
    }

    private static void addBoardBadValueBeforeFull() {
        int[][] bad = {{2, 0}, {10, 0}, {3, -1}, {3, 2001}, {9, 2001}, {2, -1}, {10, 2001}, {LEAST, LEAST}, {MOST, MOST}};
        for (int[] b : bad) {
            Refusal.is("full: addBoard(" + b[0] + ", " + b[1] + ")", Kilns::useMuch, x -> x.addBoard(b[0], b[1]), Due.BAD_VALUE);
        }
    }

    private static void addBoardRefusedChangesNothing() {
        Refusal.is("full: addBoard(3, 0)", Kilns::useMuch, x -> x.addBoard(3, 0), Due.FULL);
        Refusal.is("full: addBoard(9, 2000)", Kilns::useMuch, x -> x.addBoard(9, 2000), Due.FULL);
        Refusal.isEverywhere("addBoard(2, 2000)", x -> x.addBoard(2, 2000), Due.BAD_VALUE);
        Refusal.isEverywhere("addBoard(9, 2001)", x -> x.addBoard(9, 2001), Due.BAD_VALUE);
    }

    private static void addBoardRecordsNothingOfBefore() {
        DryingKiln x = Kilns.withLayers(0, 900, 0);
        x.dry(3);
        int water = x.totalWater();
        int given = x.evaporated();
        Due.is("a later board", x.addBoard(9, 2000), 1);
        Due.is("a later board has no check", x.checkHour(1), Due.NONE);
        Due.is("a later board has no air", x.airMoisture(1), Due.NONE);
        Due.is("a later board brings its water", x.totalWater(), water + 18000);
        Due.is("a later board is no evaporation", x.evaporated(), given);
        Due.is("a later board runs no hour", x.hour(), 3);
        Due.is("the first board keeps its check", x.checkHour(0), 1);
    }

    // ---- promise 3: setLayer

    private static void setLayerFrom0To2000() {
        DryingKiln x = Kilns.withEvenBoards(1, 3, 500);
        int previous = 500;
        for (int moisture : new int[] {0, 1, 1999, 2000, 2000, 0}) {
            Due.is("setLayer(0, 1, " + moisture + ")", x.setLayer(0, 1, moisture), previous);
            Due.is("layerMoisture(0, 1)", x.layerMoisture(0, 1), moisture);
            previous = moisture;
        }
        for (int moisture : new int[] {-1, 2001, -2000, LEAST, MOST}) {
            Due.is("setLayer(0, 1, " + moisture + ")", x.setLayer(0, 1, moisture), Due.BAD_VALUE);
        }
        Kilns.layersAre("setLayer sets one layer", x, 0, 500, 0, 500);
        x.setLayer(0, 1, 500);
        x.dry(1);
        Due.is("the previous moisture is that after the hour", x.setLayer(0, 0, 9), 500 - 76);
    }

    private static void setLayerFirstAndLastBoardAndLayer() {
        for (int board = 0; board < 6; board++) {
            int last = Kilns.LAYERS_OF_SIX[board] - 1;
            DryingKiln x = Kilns.full();
            int previous = 900 - 100 * board;
            int water = x.totalWater();
            Due.is("setLayer(" + board + ", 0, 11)", x.setLayer(board, 0, 11), previous);
            Due.is("setLayer(" + board + ", " + last + ", 12)", x.setLayer(board, last, 12), previous);
            Due.is("setLayer(" + board + ", -1, 13)", x.setLayer(board, -1, 13), Due.NO_SUCH_LAYER);
            Due.is("setLayer(" + board + ", " + (last + 1) + ", 13)", x.setLayer(board, last + 1, 13), Due.NO_SUCH_LAYER);
            Due.is("the first layer of board " + board, x.layerMoisture(board, 0), 11);
            Due.is("the last layer of board " + board, x.layerMoisture(board, last), 12);
            Due.is("the others keep theirs", x.totalWater(), water - 2 * previous + 23);
        }
    }

    private static void setLayerOrderOfErrors() {
        DryingKiln x = Kilns.full();
        for (int board : NO_BOARD_OF_SIX) {
            Due.is("setLayer(" + board + ", 0, 0)", x.setLayer(board, 0, 0), Due.NO_SUCH_BOARD);
            Due.is("setLayer(" + board + ", -1, 0)", x.setLayer(board, -1, 0), Due.NO_SUCH_BOARD);
            Due.is("setLayer(" + board + ", 0, 2001)", x.setLayer(board, 0, 2001), Due.NO_SUCH_BOARD);
            Due.is("setLayer(" + board + ", 9, -1)", x.setLayer(board, 9, -1), Due.NO_SUCH_BOARD);
        }
        for (int layer : new int[] {-1, 9, 10, LEAST, MOST}) {
            Due.is("setLayer(5, " + layer + ", 0)", x.setLayer(5, layer, 0), Due.NO_SUCH_LAYER);
            Due.is("setLayer(5, " + layer + ", -1)", x.setLayer(5, layer, -1), Due.NO_SUCH_LAYER);
            Due.is("setLayer(5, " + layer + ", 2001)", x.setLayer(5, layer, 2001), Due.NO_SUCH_LAYER);
        }
        Due.is("a layer of another board", x.setLayer(0, 3, 0), Due.NO_SUCH_LAYER);
        Due.is("a layer of another board, bad moisture", x.setLayer(0, 8, 2001), Due.NO_SUCH_LAYER);
        Due.is("setLayer(5, 8, -1)", x.setLayer(5, 8, -1), Due.BAD_VALUE);
        Due.is("setLayer(0, 0, 2001)", x.setLayer(0, 0, 2001), Due.BAD_VALUE);
    }

    private static void setLayerRefusedChangesNothing() {
        Refusal.isEverywhere("setLayer(-1, 0, 5)", x -> x.setLayer(-1, 0, 5), Due.NO_SUCH_BOARD);
        Refusal.isEverywhere("setLayer(6, 0, 5)", x -> x.setLayer(6, 0, 5), Due.NO_SUCH_BOARD);
        Refusal.is("setLayer(1, 0, 5) of one board", x -> x.addBoard(3, 500), x -> x.setLayer(1, 0, 5), Due.NO_SUCH_BOARD);
        Refusal.is("setLayer(0, 3, 5)", Kilns::useMuch, x -> x.setLayer(0, 3, 5), Due.NO_SUCH_LAYER);
        Refusal.is("setLayer(5, 9, 5)", Kilns::useMuch, x -> x.setLayer(5, 9, 5), Due.NO_SUCH_LAYER);
        Refusal.is("setLayer(5, -1, 5)", Kilns::useMuch, x -> x.setLayer(5, -1, 5), Due.NO_SUCH_LAYER);
        Refusal.is("setLayer(0, 0, -1)", Kilns::useMuch, x -> x.setLayer(0, 0, -1), Due.BAD_VALUE);
        Refusal.is("setLayer(5, 8, 2001)", Kilns::useMuch, x -> x.setLayer(5, 8, 2001), Due.BAD_VALUE);
    }

    private static void setLayerIsNoEvaporation() {
        DryingKiln x = Kilns.withEvenBoards(1, 3, 2000);
        x.setLayer(0, 0, 0);
        Due.is("less water by setLayer", x.evaporated(), 0);
        x.setLayer(0, 0, 500);
        x.setLayer(0, 1, 500);
        x.setLayer(0, 2, 500);
        Due.is("dry(1)", x.dry(1), 152);
        x.setLayer(0, 0, 0);
        x.setLayer(0, 2, 2000);
        Due.is("setLayer after a drying hour", x.evaporated(), 152);
        Due.is("setLayer leaves the air", x.airMoisture(0), 120);
    }

    private static void setLayerRecordsNoCheck() {
        DryingKiln x = Kilns.withEvenBoards(1, 3, 0);
        x.setDiffusion(1);
        x.setLayer(0, 1, 999);
        Due.is("a strain of 999 by setLayer", x.strain(0), 999);
        Due.is("is no check", x.checkHour(0), Due.NONE);
        x.setLayer(0, 1, 0);
        Due.is("a strain that is gone before the hour's end", x.rest(1), 0);
        Due.is("is none either", x.checkHour(0), Due.NONE);
        x.setLayer(0, 1, 999);
        Due.is("the next hour records it", x.rest(1), 1);
        x.setLayer(0, 1, 0);
        Due.is("and setLayer does not take it away", x.checkHour(0), 2);
    }

    // ---- promise 4: layerMoisture

    private static void layerMoistureFirstAndLast() {
        DryingKiln x = Kilns.full();
        for (int board = 0; board < 6; board++) {
            Kilns.layersAre("six boards", x, board, Kilns.even(Kilns.LAYERS_OF_SIX[board], 900 - 100 * board));
        }
        DryingKiln y = Kilns.withLayers(1, 2, 3, 4, 5, 6, 7, 8, 9);
        Kilns.layersAre("nine layers", y, 0, 1, 2, 3, 4, 5, 6, 7, 8, 9);
    }

    private static void layerMoistureErrors() {
        DryingKiln x = Kilns.full();
        for (int board : NO_BOARD_OF_SIX) {
            for (int layer : new int[] {0, -1, 9, LEAST, MOST}) {
                Due.is("layerMoisture(" + board + ", " + layer + ")", x.layerMoisture(board, layer), Due.NO_SUCH_BOARD);
            }
        }
        for (int board = 0; board < 6; board++) {
            for (int layer : new int[] {-1, Kilns.LAYERS_OF_SIX[board], LEAST, MOST}) {
                Due.is("layerMoisture(" + board + ", " + layer + ")", x.layerMoisture(board, layer), Due.NO_SUCH_LAYER);
            }
        }
        DryingKiln y = Kilns.withEvenBoards(1, 9, 5);
        Due.is("layerMoisture(1, 0) of one board", y.layerMoisture(1, 0), Due.NO_SUCH_BOARD);
        Refusal.changesNothing("layerMoisture(6, 9)", Kilns::useMuch, k -> k.layerMoisture(6, 9));
        Refusal.changesNothing("layerMoisture(5, 9)", Kilns::useMuch, k -> k.layerMoisture(5, 9));
        Refusal.changesNothing("layerMoisture(5, 8)", Kilns::useMuch, k -> k.layerMoisture(5, 8));
    }

    // ---- promise 5: averageMoisture

    private static void averageMoistureRoundsDown() {
        for (int layers = 3; layers <= 9; layers++) {
            DryingKiln x = Kilns.withEvenBoards(1, layers, 100);
            String of = " more in " + layers + " layers";
            Due.is("0" + of, x.averageMoisture(0), 100);
            x.setLayer(0, layers - 1, 100 + layers - 1);
            Due.is((layers - 1) + of, x.averageMoisture(0), 100);
            x.setLayer(0, layers - 1, 100 + layers);
            Due.is(layers + of, x.averageMoisture(0), 101);
            x.setLayer(0, layers - 1, 99);
            Due.is("-1" + of, x.averageMoisture(0), 99);
        }
    }

    private static void averageMoistureLeastAndGreatest() {
        for (int layers : new int[] {3, 9}) {
            DryingKiln x = Kilns.withEvenBoards(1, layers, 0);
            Due.is("the least average", x.averageMoisture(0), 0);
            x.setLayer(0, 0, layers - 1);
            Due.is("the greatest that rounds down to 0", x.averageMoisture(0), 0);
            DryingKiln y = Kilns.withEvenBoards(1, layers, 2000);
            Due.is("the greatest average", y.averageMoisture(0), 2000);
            y.setLayer(0, 0, 1999);
            Due.is("1 less than the greatest sum", y.averageMoisture(0), 1999);
        }
    }

    private static void averageMoistureOfBoards() {
        DryingKiln x = Kilns.full();
        for (int board = 0; board < 6; board++) {
            Due.is("averageMoisture(" + board + ")", x.averageMoisture(board), 900 - 100 * board);
        }
        for (int board : NO_BOARD_OF_SIX) {
            Due.is("averageMoisture(" + board + ")", x.averageMoisture(board), Due.NO_SUCH_BOARD);
        }
        Due.is("averageMoisture(1) of one board", Kilns.withEvenBoards(1, 3, 5).averageMoisture(1), Due.NO_SUCH_BOARD);
        Refusal.changesNothing("averageMoisture(6)", Kilns::useMuch, k -> k.averageMoisture(6));
        Refusal.changesNothing("averageMoisture(5)", Kilns::useMuch, k -> k.averageMoisture(5));
    }

    // ---- promise 6: strain

    private static void strainLeastAndGreatest() {
        for (int moisture : new int[] {0, 1, 2000}) {
            Due.is("strain of an even board", Kilns.withEvenBoards(1, 3, moisture).strain(0), 0);
        }
        Due.is("the greatest strain, inside", Kilns.withLayers(0, 2000, 0).strain(0), 2000);
        Due.is("the greatest strain, between the faces", Kilns.withLayers(2000, 0, 0).strain(0), 2000);
        Due.is("the greatest strain, the other way", Kilns.withLayers(0, 0, 2000).strain(0), 2000);
        Due.is("the least strain that is one", Kilns.withLayers(7, 7, 8).strain(0), 1);
    }

    private static void strainHeedsOutermostLayersAlone() {
        for (int layers = 3; layers <= 9; layers++) {
            for (int wet = 0; wet < layers; wet++) {
                int[] row = Kilns.even(layers, 50);
                row[wet] = 80;
                Due.is("layer " + wet + " of " + layers + " is the wettest", Kilns.withLayers(row).strain(0), 30);
            }
            for (int dry = 0; dry < layers; dry++) {
                int[] row = Kilns.even(layers, 50);
                row[dry] = 10;
                int strain = dry == 0 || dry == layers - 1 ? 40 : 0;
                Due.is("layer " + dry + " of " + layers + " is the driest", Kilns.withLayers(row).strain(0), strain);
            }
        }
    }

    private static void strainOfBoards() {
        DryingKiln x = Kilns.full();
        for (int board = 0; board < 6; board++) {
            x.setLayer(board, 1, 1000 + board);
            Due.is("strain(" + board + ")", x.strain(board), 100 + 101 * board);
        }
        for (int board : NO_BOARD_OF_SIX) {
            Due.is("strain(" + board + ")", x.strain(board), Due.NO_SUCH_BOARD);
        }
        Due.is("strain(1) of one board", Kilns.withEvenBoards(1, 3, 5).strain(1), Due.NO_SUCH_BOARD);
        Refusal.changesNothing("strain(6)", Kilns::useMuch, k -> k.strain(6));
        Refusal.changesNothing("strain(2)", Kilns::useMuch, k -> k.strain(2));
    }

    // ---- promise 7: checkHour

    private static void checkHourAtTheLimit() {
        for (int limit : new int[] {20, 200, 900}) {
            DryingKiln x = Kilns.withEvenBoards(6, 3, 0);
            x.setDiffusion(1);
            x.setStrainLimit(limit);
            for (int board = 0; board < 6; board++) {
                x.setLayer(board, 1, limit + board % 2);
            }
            Due.is("limit " + limit + ": three boards are above it", x.rest(1), 3);
            for (int board = 0; board < 6; board++) {
                Due.is("limit " + limit + ": checkHour(" + board + ")", x.checkHour(board), board % 2 == 0 ? Due.NONE : 1);
            }
        }
        // In air of 0 the faces lose a fifth, rounded toward zero: 200 of 1004, 201 of 1005.
        for (int moisture : new int[] {1004, 1005}) {
            DryingKiln y = Kilns.withEvenBoards(1, 3, moisture);
            y.setHumidity(0);
            y.dry(1);
            Due.is("a drying hour from " + moisture, y.checkHour(0), moisture == 1005 ? 1 : Due.NONE);
            DryingKiln z = Kilns.withEvenBoards(1, 3, moisture);
            z.addStage(2000, 0);
            z.runSchedule(0, 1);
            Due.is("a scheduled hour from " + moisture, z.checkHour(0), moisture == 1005 ? 1 : Due.NONE);
        }
    }

    private static void checkHourIsTheFirst() {
        DryingKiln x = Kilns.withEvenBoards(1, 3, 0);
        x.setDiffusion(1);
        x.rest(200);
        Due.is("200 hours without a check", x.checkHour(0), Due.NONE);
        x.setLayer(0, 1, 300);
        x.rest(200);
        Due.is("the first hour above the limit", x.checkHour(0), 201);
        x.setLayer(0, 1, 0);
        x.rest(1);
        Due.is("the check stays without strain", x.checkHour(0), 201);
        x.setLayer(0, 1, 900);
        x.dry(1);
        Due.is("the check stays under a greater strain", x.checkHour(0), 201);
    }

    private static void checkHourErrors() {
        DryingKiln x = Kilns.full();
        for (int board = 0; board < 6; board++) {
            Due.is("checkHour(" + board + ") without a check", x.checkHour(board), Due.NONE);
        }
        for (int board : NO_BOARD_OF_SIX) {
            Due.is("checkHour(" + board + ")", x.checkHour(board), Due.NO_SUCH_BOARD);
        }
        Due.is("checkHour(1) of one board", Kilns.withEvenBoards(1, 3, 5).checkHour(1), Due.NO_SUCH_BOARD);
        Refusal.changesNothing("checkHour(6)", Kilns::useMuch, k -> k.checkHour(6));
        Refusal.changesNothing("checkHour(5)", Kilns::useMuch, k -> k.checkHour(5));
    }

    // ---- promise 8: wettestBoard

    private static void wettestBoardWithoutBoards() {
        DryingKiln x = new DryingKiln();
        Due.is("wettestBoard() without boards", x.wettestBoard(), Due.NONE);
        x.addBoard(2, 2000);
        x.dry(1);
        Due.is("wettestBoard() after a refused board", x.wettestBoard(), Due.NONE);
        x.addBoard(3, 0);
        Due.is("wettestBoard() of one dry board", x.wettestBoard(), 0);
    }

    private static void wettestBoardOfEquals() {
        for (int moisture : new int[] {0, 700, 2000}) {
            Due.is("six equal boards", Kilns.withEvenBoards(6, 4, moisture).wettestBoard(), 0);
        }
        DryingKiln x = Kilns.withEvenBoards(6, 3, 100);
        x.setLayer(3, 0, 103);
        x.setLayer(5, 0, 103);
        Due.is("the lowest of two", x.wettestBoard(), 3);
        x.setLayer(5, 0, 105);
        Due.is("the lowest of two that round down alike", x.wettestBoard(), 3);
        x.setLayer(5, 0, 106);
        Due.is("the last is greater by 1", x.wettestBoard(), 5);
    }

    private static void wettestBoardFirstAndLast() {
        for (int board = 0; board < 6; board++) {
            DryingKiln x = Kilns.withEvenBoards(6, 3, 1999);
            for (int layer = 0; layer < 3; layer++) {
                x.setLayer(board, layer, 2000);
            }
            Due.is("board " + board + " is the wettest", x.wettestBoard(), board);
        }
        // A wet layer does not count, and neither does the sum over more layers.
        DryingKiln y = Kilns.withEvenBoards(1, 9, 100);
        Kilns.addLayers(y, 0, 330, 0);
        Due.is("the average counts", y.wettestBoard(), 1);
        Refusal.changesNothing("wettestBoard()", Kilns::useMuch, k -> k.wettestBoard());
    }

    // ---- promise 9: totalWater

    private static void totalWaterLeastAndGreatest() {
        Due.is("totalWater() without boards", new DryingKiln().totalWater(), 0);
        Due.is("totalWater() of dry boards", Kilns.withEvenBoards(6, 9, 0).totalWater(), 0);
        Due.is("totalWater() of the fullest kiln", Kilns.withEvenBoards(6, 9, 2000).totalWater(), 108000);
        for (int board = 0; board < 6; board++) {
            for (int layer = 0; layer < 9; layer++) {
                DryingKiln x = Kilns.withEvenBoards(6, 9, 0);
                x.setLayer(board, layer, 1);
                Due.is("totalWater() of layer " + layer + " of board " + board, x.totalWater(), 1);
            }
        }
        Refusal.changesNothing("totalWater()", Kilns::useMuch, k -> k.totalWater());
    }

    // ---- promise 10: sampleError

    private static void sampleErrorEmptySample() {
        for (int boards = 0; boards <= 6; boards++) {
            Due.is("sampleError(0) of " + boards, Kilns.withEvenBoards(boards, 3, 100).sampleError(0), Due.BAD_VALUE);
        }
        Refusal.isEverywhere("sampleError(0)", x -> x.sampleError(0), Due.BAD_VALUE);
    }

    private static void sampleErrorBitsOfMissingBoards() {
        for (int boards = 0; boards <= 6; boards++) {
            DryingKiln x = Kilns.withEvenBoards(boards, 3, 100);
            int all = (1 << boards) - 1;
            for (int bit = boards; bit < 32; bit++) {
                Due.is("bit " + bit + " of " + boards, x.sampleError(1 << bit), Due.BAD_VALUE);
                Due.is("bit " + bit + " and all of " + boards, x.sampleError(1 << bit | all), Due.BAD_VALUE);
            }
            Due.is("every bit of " + boards, x.sampleError(-1), Due.BAD_VALUE);
            Due.is("every bit but the sign of " + boards, x.sampleError(MOST), Due.BAD_VALUE);
        }
        Refusal.isEverywhere("sampleError(64)", x -> x.sampleError(64), Due.BAD_VALUE);
        Refusal.isEverywhere("sampleError(LEAST)", x -> x.sampleError(LEAST), Due.BAD_VALUE);
        Refusal.changesNothing("sampleError(63)", Kilns::useMuch, x -> x.sampleError(63));
    }

    private static void sampleErrorFirstLastAndAll() {
        DryingKiln x = Kilns.full();
        // The averages are 900 to 400 and their mean is 650, however many layers they have.
        for (int board = 0; board < 6; board++) {
            Due.is("board " + board + " of six", x.sampleError(1 << board), 250 - 100 * board);
        }
        Due.is("the first and the last of six", x.sampleError(33), 0);
        Due.is("all but the first of six", x.sampleError(62), -50);
        Due.is("all but the last of six", x.sampleError(31), 50);
        for (int boards = 1; boards <= 6; boards++) {
            DryingKiln y = new DryingKiln();
            for (int i = 0; i < boards; i++) {
                y.addBoard(3 + i, 17 * i);
            }
            Due.is("all of " + boards, y.sampleError((1 << boards) - 1), 0);
        }
    }

    private static void sampleErrorMeansRoundDown() {
        DryingKiln x = new DryingKiln();
        x.addBoard(3, 10);
        x.addBoard(3, 11);
        x.addBoard(3, 13);
        // The mean of all is 34 / 3, rounded down: 11.
        Due.is("21 / 2 is 10", x.sampleError(3), -1);
        Due.is("23 / 2 is 11", x.sampleError(5), 0);
        Due.is("24 / 2 is 12", x.sampleError(6), 1);
        Due.is("34 / 3 is 11", x.sampleError(7), 0);
        // Averages are rounded before they are added: 11 and 11 of 35 / 3 and 35 / 3, not 11.67.
        x.setLayer(0, 0, 15);
        x.setLayer(1, 0, 13);
        Due.is("(11 + 11) / 2 of (11 + 11 + 13) / 3", x.sampleError(3), 0);
        Due.is("13 of 35 / 3", x.sampleError(4), 2);
    }

    private static void sampleErrorLeastAndGreatest() {
        DryingKiln x = Kilns.withEvenBoards(1, 9, 2000);
        for (int i = 1; i < 6; i++) {
            x.addBoard(3, 0);
        }
        Due.is("the only wet board", x.sampleError(1), 2000 - 333);
        Due.is("the five dry ones", x.sampleError(62), -333);
        DryingKiln y = Kilns.withEvenBoards(5, 9, 2000);
        y.addBoard(3, 0);
        Due.is("the only dry board", y.sampleError(32), -1666);
        Due.is("the five wet ones", y.sampleError(31), 334);
        Due.is("dry boards alone", Kilns.withEvenBoards(6, 3, 0).sampleError(7), 0);
    }
}
