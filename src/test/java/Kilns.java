import java.util.Arrays;

/** Kilns in states that several tests begin with. */
final class Kilns {
    /** The layers of the boards that fill a kiln: the first board has the fewest, the last one the most. */
    static final int[] LAYERS_OF_SIX = {3, 4, 5, 6, 7, 9};

    private Kilns() {
    }

    static void leaveEmpty(DryingKiln x) {
        Due.is("a new kiln", x.hour(), 0);
    }

    static void fill(DryingKiln x) {
        for (int i = 0; i < LAYERS_OF_SIX.length; i++) {
            Due.is("board " + i + " of six", x.addBoard(LAYERS_OF_SIX[i], 900 - 100 * i), i);
        }
    }

    static void fillSchedule(DryingKiln x) {
        for (int i = 0; i < 8; i++) {
            Due.is("stage " + i + " of eight", x.addStage(800 - 100 * i, 80 - 10 * i), i);
        }
    }

    /** A full kiln and a full schedule; every setting and counter is another one than at first. */
    static void useMuch(DryingKiln x) {
        fill(x);
        fillSchedule(x);
        x.setDiffusion(90);
        x.setSurface(210);
        x.setCapacity(40);
        x.setStrainLimit(150);
        x.setHumidity(110);
        x.setReversalPeriod(5);
        x.setFan(true);
        x.dry(3);
        x.rest(2);
        x.setLayer(2, 1, 777);
    }

    static DryingKiln full() {
        DryingKiln x = new DryingKiln();
        fill(x);
        return x;
    }

    static DryingKiln withLayers(int... moistures) {
        DryingKiln x = new DryingKiln();
        addLayers(x, moistures);
        return x;
    }

    static void addLayers(DryingKiln x, int... moistures) {
        int board = x.addBoard(moistures.length, 0);
        for (int i = 0; i < moistures.length; i++) {
            x.setLayer(board, i, moistures[i]);
        }
    }

    static DryingKiln withEvenBoards(int boards, int layers, int moisture) {
        DryingKiln x = new DryingKiln();
        for (int i = 0; i < boards; i++) {
            x.addBoard(layers, moisture);
        }
        return x;
    }

    static void layersAre(String when, DryingKiln x, int board, int... moistures) {
        for (int i = 0; i < moistures.length; i++) {
            Due.is(when + ": layer " + i + " of board " + board, x.layerMoisture(board, i), moistures[i]);
        }
        Due.is(when + ": no layer more in board " + board, x.layerMoisture(board, moistures.length), Due.NO_SUCH_LAYER);
    }

    static int[] even(int layers, int moisture) {
        int[] row = new int[layers];
        Arrays.fill(row, moisture);
        return row;
    }
}
