/** Promises 1 to 10: a new object and its boards. */
public final class BoardsTest {
    private static final int LEAST = Integer.MIN_VALUE;
    private static final int MOST = Integer.MAX_VALUE;

    public static void main(String[] args) {
        promise1NewObject();
        promise2AddBoard();
        promise3SetLayer();
        promise4LayerMoisture();
        promise5AverageMoisture();
        promise6Strain();
        promise7CheckHour();
        promise8WettestBoard();
        promise9TotalWater();
        promise10SampleError();
        Due.finish();
    }

    private static void promise1NewObject() {
        DryingKiln x = new DryingKiln();
        Due.is("new: hour()", x.hour(), 0);
        Due.is("new: evaporated()", x.evaporated(), 0);
        Due.is("new: totalWater()", x.totalWater(), 0);
        Due.is("new: wettestBoard()", x.wettestBoard(), Due.NONE);
        Due.is("new: currentStage()", x.currentStage(), Due.NONE);
        Due.is("new: isFanReversed()", x.isFanReversed(), 0);
        Due.is("new: clearStages()", x.clearStages(), 0);
        Due.is("new: layerMoisture(0, 0)", x.layerMoisture(0, 0), Due.NO_SUCH_BOARD);
        Due.is("new: setDiffusion(1)", x.setDiffusion(1), 100);
        Due.is("new: setSurface(1)", x.setSurface(1), 200);
        Due.is("new: setCapacity(1)", x.setCapacity(1), 50);
        Due.is("new: setStrainLimit(20)", x.setStrainLimit(20), 200);
        Due.is("new: setHumidity(0)", x.setHumidity(0), 120);
        Due.is("new: setReversalPeriod(1)", x.setReversalPeriod(1), 0);
        DryingKiln other = new DryingKiln();
        Due.is("a second object has settings of its own", other.setDiffusion(2), 100);
        x.addBoard(3, 100);
        Due.is("a second object has boards of its own", other.totalWater(), 0);
        Due.is("NO_SUCH_BOARD", DryingKiln.NO_SUCH_BOARD, -1000001);
        Due.is("NO_SUCH_LAYER", DryingKiln.NO_SUCH_LAYER, -1000002);
        Due.is("BAD_VALUE", DryingKiln.BAD_VALUE, -1000003);
        Due.is("FULL", DryingKiln.FULL, -1000004);
        Due.is("NONE", DryingKiln.NONE, -1000005);
        Due.is("REST", DryingKiln.REST, -1000006);
    }

    private static void promise2AddBoard() {
        DryingKiln x = new DryingKiln();
        int[][] bad = {{2, 0}, {10, 0}, {0, 0}, {-3, 0}, {LEAST, 5}, {MOST, 5}, {3, -1}, {3, 2001}, {3, LEAST}, {3, MOST}};
        refuseBoards(x, bad);
        Due.is("no board after bad values", x.totalWater(), 0);
        Due.is("addBoard(3, 0)", x.addBoard(3, 0), 0);
        Due.is("addBoard(9, 2000)", x.addBoard(9, 2000), 1);
        for (int i = 2; i < 6; i++) {
            Due.is("addBoard(4, 10) as number " + i, x.addBoard(4, 10), i);
        }
        Due.is("addBoard(4, 10) as the seventh", x.addBoard(4, 10), Due.FULL);
        refuseBoards(x, bad);
        Due.is("every layer has the moisture", x.totalWater(), 9 * 2000 + 4 * 4 * 10);
        Due.is("board 1 has a layer 8", x.layerMoisture(1, 8), 2000);
        Due.is("board 1 has no layer 9", x.layerMoisture(1, 9), Due.NO_SUCH_LAYER);
        Due.is("there is no board 6", x.layerMoisture(6, 0), Due.NO_SUCH_BOARD);
    }

    private static void refuseBoards(DryingKiln x, int[][] bad) {
        for (int[] b : bad) {
            Due.is("addBoard(" + b[0] + ", " + b[1] + ")", x.addBoard(b[0], b[1]), Due.BAD_VALUE);
        }
    }

    private static void promise3SetLayer() {
        DryingKiln x = new DryingKiln();
        Due.is("setLayer without boards", x.setLayer(0, 0, 0), Due.NO_SUCH_BOARD);
        x.addBoard(3, 500);
        Due.is("setLayer(0, 0, 2000)", x.setLayer(0, 0, 2000), 500);
        Due.is("setLayer(0, 0, 0)", x.setLayer(0, 0, 0), 2000);
        Due.is("setLayer(0, 0, 7)", x.setLayer(0, 0, 7), 0);
        Due.is("setLayer(0, 2, 8)", x.setLayer(0, 2, 8), 500);
        Due.is("setLayer is no evaporation", x.evaporated(), 0);
        Due.is("setLayer records no check", x.checkHour(0), Due.NONE);
        Due.is("setLayer runs no hour", x.hour(), 0);
        for (int board : new int[] {-1, 1, 6, LEAST, MOST}) {
            Due.is("setLayer(" + board + ", -1, -1)", x.setLayer(board, -1, -1), Due.NO_SUCH_BOARD);
        }
        for (int layer : new int[] {-1, 3, 9, LEAST, MOST}) {
            Due.is("setLayer(0, " + layer + ", -1)", x.setLayer(0, layer, -1), Due.NO_SUCH_LAYER);
        }
        for (int moisture : new int[] {-1, 2001, LEAST, MOST}) {
            Due.is("setLayer(0, 1, " + moisture + ")", x.setLayer(0, 1, moisture), Due.BAD_VALUE);
        }
        Due.is("layer 0 after the errors", x.layerMoisture(0, 0), 7);
        Due.is("layer 1 after the errors", x.layerMoisture(0, 1), 500);
        Due.is("layer 2 after the errors", x.layerMoisture(0, 2), 8);
    }

    private static void promise4LayerMoisture() {
        DryingKiln x = new DryingKiln();
        x.addBoard(3, 100);
        x.addBoard(9, 200);
        x.setLayer(1, 8, 300);
        Due.is("layerMoisture(0, 2)", x.layerMoisture(0, 2), 100);
        Due.is("layerMoisture(1, 0)", x.layerMoisture(1, 0), 200);
        Due.is("layerMoisture(1, 8)", x.layerMoisture(1, 8), 300);
        for (int board : new int[] {-1, 2, LEAST, MOST}) {
            Due.is("layerMoisture(" + board + ", 99)", x.layerMoisture(board, 99), Due.NO_SUCH_BOARD);
        }
        for (int layer : new int[] {-1, 3, LEAST, MOST}) {
            Due.is("layerMoisture(0, " + layer + ")", x.layerMoisture(0, layer), Due.NO_SUCH_LAYER);
        }
    }

    private static void promise5AverageMoisture() {
        DryingKiln x = new DryingKiln();
        Due.is("averageMoisture without boards", x.averageMoisture(0), Due.NO_SUCH_BOARD);
        x.addBoard(3, 100);
        Due.is("average of equal layers", x.averageMoisture(0), 100);
        x.setLayer(0, 1, 102);
        Due.is("average of 100, 102, 100, rounded down", x.averageMoisture(0), 100);
        x.setLayer(0, 2, 101);
        Due.is("average of 100, 102, 101", x.averageMoisture(0), 101);
        x.addBoard(9, 2000);
        Due.is("average of nine layers", x.averageMoisture(1), 2000);
        for (int board : new int[] {-1, 2, LEAST, MOST}) {
            Due.is("averageMoisture(" + board + ")", x.averageMoisture(board), Due.NO_SUCH_BOARD);
        }
    }

    private static void promise6Strain() {
        DryingKiln x = new DryingKiln();
        Due.is("strain without boards", x.strain(0), Due.NO_SUCH_BOARD);
        x.addBoard(4, 100);
        Due.is("strain of equal layers", x.strain(0), 0);
        x.addBoard(3, 0);
        Due.is("strain of a dry board", x.strain(1), 0);
        x.setLayer(0, 2, 40);
        Due.is("a dry inner layer is no strain", x.strain(0), 0);
        x.setLayer(0, 1, 150);
        Due.is("a wet inner layer", x.strain(0), 50);
        x.setLayer(0, 0, 90);
        Due.is("the top is the drier face", x.strain(0), 60);
        x.setLayer(0, 3, 20);
        Due.is("the bottom is the drier face", x.strain(0), 130);
        x.setLayer(0, 0, 700);
        Due.is("the wettest layer is a face", x.strain(0), 680);
        for (int board : new int[] {-1, 2, LEAST, MOST}) {
            Due.is("strain(" + board + ")", x.strain(board), Due.NO_SUCH_BOARD);
        }
    }

    private static void promise7CheckHour() {
        DryingKiln x = new DryingKiln();
        Due.is("checkHour without boards", x.checkHour(0), Due.NO_SUCH_BOARD);
        x.addBoard(3, 0);
        x.addBoard(3, 400);
        // With a diffusion of 1, differences under 1000 do not flow at all.
        x.setDiffusion(1);
        x.setLayer(0, 1, 200);
        Due.is("rest(1) at the limit", x.rest(1), 0);
        Due.is("no check at the limit", x.checkHour(0), Due.NONE);
        x.setLayer(0, 1, 201);
        Due.is("rest(1) above the limit", x.rest(1), 1);
        Due.is("the hour of the check is the new hour", x.checkHour(0), 2);
        Due.is("the other board has none", x.checkHour(1), Due.NONE);
        Due.is("rest(3) records no second check", x.rest(3), 0);
        Due.is("the first check stays", x.checkHour(0), 2);
        for (int board : new int[] {-1, 2, LEAST, MOST}) {
            Due.is("checkHour(" + board + ")", x.checkHour(board), Due.NO_SUCH_BOARD);
        }
        checksOfDryingHours();
    }

    private static void checksOfDryingHours() {
        DryingKiln x = new DryingKiln();
        x.addBoard(5, 800);
        x.setHumidity(0);
        x.dry(3);
        // 800 -> 640 -> 528 at the faces: strains of 160 and 800 - 528 = 272.
        Due.is("the second drying hour makes the check", x.checkHour(0), 2);
        x.addBoard(5, 800);
        x.dry(2);
        Due.is("a later board has a later check", x.checkHour(1), 5);
        x.setStrainLimit(900);
        Due.is("a check stays under a new limit", x.checkHour(0), 2);
    }

    private static void promise8WettestBoard() {
        DryingKiln x = new DryingKiln();
        Due.is("wettestBoard without boards", x.wettestBoard(), Due.NONE);
        x.addBoard(3, 0);
        Due.is("a dry board is the wettest too", x.wettestBoard(), 0);
        x.addBoard(3, 0);
        Due.is("the lowest number of equals", x.wettestBoard(), 0);
        x.addBoard(3, 10);
        x.addBoard(9, 10);
        Due.is("the greatest average, the lowest number", x.wettestBoard(), 2);
        x.setLayer(3, 0, 18);
        Due.is("an average that rounds down to the same", x.averageMoisture(3), 10);
        x.setLayer(3, 0, 19);
        Due.is("an average that is greater by 1", x.wettestBoard(), 3);
        x.setLayer(1, 1, 34);
        Due.is("34 / 3 and 99 / 9 round down to equals", x.wettestBoard(), 1);
    }

    private static void promise9TotalWater() {
        DryingKiln x = new DryingKiln();
        Due.is("totalWater without boards", x.totalWater(), 0);
        for (int i = 0; i < 6; i++) {
            x.addBoard(9, 2000);
        }
        Due.is("totalWater of a full kiln", x.totalWater(), 108000);
        x.setLayer(5, 8, 1);
        Due.is("totalWater after setLayer", x.totalWater(), 106001);
        int before = x.totalWater();
        int given = x.dry(7);
        Due.is("what leaves the boards is given off", x.totalWater(), before - given);
        before = x.totalWater();
        x.rest(7);
        Due.is("rest keeps the water", x.totalWater(), before);
    }

    private static void promise10SampleError() {
        DryingKiln x = new DryingKiln();
        for (int sample : new int[] {0, 1, -1, LEAST, MOST}) {
            Due.is("sampleError(" + sample + ") without boards", x.sampleError(sample), Due.BAD_VALUE);
        }
        x.addBoard(3, 100);
        x.addBoard(9, 201);
        x.addBoard(3, 301);
        // All: (100 + 201 + 301) / 3 = 200 with a rest of 2.
        Due.is("sampleError(1)", x.sampleError(1), -100);
        Due.is("sampleError(2)", x.sampleError(2), 1);
        Due.is("sampleError(3)", x.sampleError(3), -50);
        Due.is("sampleError(4)", x.sampleError(4), 101);
        Due.is("sampleError(5)", x.sampleError(5), 0);
        Due.is("sampleError(6)", x.sampleError(6), 51);
        Due.is("sampleError(7)", x.sampleError(7), 0);
        for (int sample : new int[] {0, 8, 9, 15, 64, 1 << 30, -1, -8, LEAST, LEAST + 1, MOST}) {
            Due.is("sampleError(" + sample + ")", x.sampleError(sample), Due.BAD_VALUE);
        }
        // 32 / 3 and 34 / 3 round down to 10 and 11, and their mean to 10; the mean of all layers is 11.
        DryingKiln y = new DryingKiln();
        y.addBoard(3, 10);
        y.setLayer(0, 0, 12);
        y.addBoard(3, 11);
        y.setLayer(1, 0, 12);
        Due.is("the mean is one of rounded averages", y.sampleError(2), 1);
        for (int i = 0; i < 4; i++) {
            y.addBoard(4, 1000);
        }
        Due.is("sampleError(63) of six boards", y.sampleError(63), 0);
        Due.is("sampleError(32) of six boards", y.sampleError(32), 330);
        Due.is("sampleError(64) of six boards", y.sampleError(64), Due.BAD_VALUE);
    }
}
