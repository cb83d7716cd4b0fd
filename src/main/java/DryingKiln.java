import java.util.ArrayList;
import java.util.Arrays;

/** A simulator and controller for a timber drying kiln; README.md says how to use it. */
public final class DryingKiln {
    public static final int NO_SUCH_BOARD = -1000001;
    public static final int NO_SUCH_LAYER = -1000002;
    public static final int BAD_VALUE = -1000003;
    public static final int FULL = -1000004;
    public static final int NONE = -1000005;
    public static final int REST = -1000006;

    private static final int MAX_BOARDS = 6;
    private static final int MIN_LAYERS = 3;
    private static final int MAX_LAYERS = 9;
    private static final int MAX_MOISTURE = 2000;
    private static final int MAX_INLET = 300;
    private static final int INLET_STEP = 10;
    private static final int MAX_DIFFUSION = 250;
    private static final int MAX_SURFACE = 500;
    private static final int MAX_CAPACITY = 10000;
    private static final int MIN_STRAIN_LIMIT = 20;
    private static final int MAX_STRAIN_LIMIT = 900;
    private static final int MAX_REVERSAL_PERIOD = 48;
    private static final int MAX_HOURS = 200;
    private static final int MAX_STAGES = 8;
    private static final int MAX_PLANNED_HOURS = 300;
    private static final int THOUSAND = 1000;

    private final Settings settings = new Settings();
    private final Schedule schedule = new Schedule();
    private final Load load = new Load();
    // Planning works on these two, so that no plan has to make objects of its own.
    private final Load planned = new Load();
    private final Load trial = new Load();
    private final int[] plan = new int[MAX_PLANNED_HOURS];
    private int hoursRun = 0;
    private int waterGivenOff = 0;

    public DryingKiln() {
    }

    // ---- boards

    public int addBoard(int layers, int moisture) {
        if (isOutside(layers, MIN_LAYERS, MAX_LAYERS) || isOutside(moisture, 0, MAX_MOISTURE)) {
            return BAD_VALUE;
        }
        int number = load.size();
        if (number >= MAX_BOARDS) {
            return FULL;
        }
        load.put(new Board(layers, moisture));
        planned.put(new Board(layers, moisture));
        trial.put(new Board(layers, moisture));
        return number;
    }

    public int setLayer(int board, int layer, int moisture) {
        if (!load.has(board)) {
            return NO_SUCH_BOARD;
        }
        int[] row = load.boardAt(board).moisture;
        if (layer < 0 || layer >= row.length) {
            return NO_SUCH_LAYER;
        }
        if (isOutside(moisture, 0, MAX_MOISTURE)) {
            return BAD_VALUE;
        }
        int previous = row[layer];
        row[layer] = moisture;
        return previous;
    }

    public int layerMoisture(int board, int layer) {
        if (!load.has(board)) {
            return NO_SUCH_BOARD;
        }
        int[] row = load.boardAt(board).moisture;
        return layer >= 0 && layer < row.length ? row[layer] : NO_SUCH_LAYER;
    }

    public int averageMoisture(int board) {
        return load.has(board) ? load.boardAt(board).average() : NO_SUCH_BOARD;
    }

    public int strain(int board) {
        return load.has(board) ? load.boardAt(board).gradient() : NO_SUCH_BOARD;
    }

    public int checkHour(int board) {
        return load.has(board) ? load.boardAt(board).checkedAt : NO_SUCH_BOARD;
    }

    public int wettestBoard() {
        return load.wettest();
    }

    public int totalWater() {
        return load.water();
    }

    public int sampleError(int sample) {
        int all = (1 << load.size()) - 1;
        if (sample == 0 || (sample & ~all) != 0) {
            return BAD_VALUE;
        }
        return load.meanOf(sample) - load.meanOf(all);
    }

    // ---- settings

    public int setDiffusion(int diffusion) {
        if (isOutside(diffusion, 1, MAX_DIFFUSION)) {
            return BAD_VALUE;
        }
        int previous = settings.diffusion;
        settings.diffusion = diffusion;
        return previous;
    }

    public int setSurface(int surface) {
        if (isOutside(surface, 1, MAX_SURFACE)) {
            return BAD_VALUE;
        }
        int previous = settings.surface;
        settings.surface = surface;
        return previous;
    }

    public int setCapacity(int capacity) {
        if (isOutside(capacity, 1, MAX_CAPACITY)) {
            return BAD_VALUE;
        }
        int previous = settings.capacity;
        settings.capacity = capacity;
        return previous;
    }

    public int setStrainLimit(int limit) {
        if (isOutside(limit, MIN_STRAIN_LIMIT, MAX_STRAIN_LIMIT)) {
            return BAD_VALUE;
        }
        int previous = settings.strainLimit;
        settings.strainLimit = limit;
        return previous;
    }

    public int setHumidity(int humidity) {
        if (isOutside(humidity, 0, MAX_INLET)) {
            return BAD_VALUE;
        }
        int previous = settings.humidity;
        settings.humidity = humidity;
        return previous;
    }

    public int setFan(boolean reversed) {
        boolean changed = load.reversed != reversed;
        load.reversed = reversed;
        return changed ? 1 : 0;
    }

    public int isFanReversed() {
        return load.reversed ? 1 : 0;
    }

    public int setReversalPeriod(int hours) {
        if (isOutside(hours, 0, MAX_REVERSAL_PERIOD)) {
            return BAD_VALUE;
        }
        int previous = settings.reversalPeriod;
        settings.reversalPeriod = hours;
        return previous;
    }

    // ---- running

    public int dry(int hours) {
        if (isOutside(hours, 1, MAX_HOURS)) {
            return BAD_VALUE;
        }
        int given = 0;
        for (int i = 0; i < hours; i++) {
            given += runDryingHour(settings.humidity);
        }
        return given;
    }

    public int rest(int hours) {
        if (isOutside(hours, 1, MAX_HOURS)) {
            return BAD_VALUE;
        }
        int checks = 0;
        for (int i = 0; i < hours; i++) {
            load.passRestHour(settings);
            checks += endHour();
        }
        return checks;
    }

    public int hour() {
        return hoursRun;
    }

    public int evaporated() {
        return waterGivenOff;
    }

    public int airMoisture(int board) {
        return load.has(board) ? load.boardAt(board).air : NO_SUCH_BOARD;
    }

    // ---- schedules

    public int addStage(int threshold, int inletMoisture) {
        if (isOutside(threshold, 0, MAX_MOISTURE) || isOutside(inletMoisture, 0, MAX_INLET)) {
            return BAD_VALUE;
        }
        return schedule.append(threshold, inletMoisture);
    }

    public int clearStages() {
        return schedule.clear();
    }

    public int currentStage() {
        return load.size() == 0 ? NONE : schedule.stageFor(load.greatestAverage());
    }

    public int runSchedule(int target, int maxHours) {
        if (isOutside(target, 0, MAX_MOISTURE) || isOutside(maxHours, 1, MAX_HOURS)) {
            return BAD_VALUE;
        }
        int hours = 0;
        while (hours < maxHours && load.isWetterThan(target)) {
            runDryingHour(scheduledInlet());
            hours++;
        }
        return hours;
    }

    // ---- planning

    public int plannedHours(int target) {
        return isOutside(target, 0, MAX_MOISTURE) ? BAD_VALUE : makePlan(target);
    }

    public int plannedInlet(int target, int hour) {
        if (isOutside(target, 0, MAX_MOISTURE) || hour < 0) {
            return BAD_VALUE;
        }
        // NONE is negative, so no hour is below it.
        return hour < makePlan(target) && hour < plan.length ? plan[hour] : NONE;
    }

    private static boolean isOutside(int value, int least, int greatest) {
        return value < least || value > greatest;
    }

    /** No divisor of the kiln is ever 0; the test stands here so that no division can fail. */
    private static int quotient(int dividend, int divisor) {
        return divisor == 0 ? 0 : dividend / divisor;
    }

    private int runDryingHour(int inlet) {
        int given = load.passDryingHour(inlet, settings);
        waterGivenOff += given;
        endHour();
        return given;
    }

    /** Answers how many boards got a check. */
    private int endHour() {
        hoursRun++;
        return load.recordChecks(settings.strainLimit, hoursRun);
    }

    private int scheduledInlet() {
        return schedule.inletOf(currentStage(), settings.humidity);
    }

    /** Writes the inlet moistures into plan; answers the number of hours, or NONE if they are too many. */
    private int makePlan(int target) {
        planned.copyFrom(load);
        int hours = 0;
        while (hours < plan.length && planned.isWetterThan(target)) {
            int inlet = chooseInlet();
            plan[hours] = inlet;
            if (inlet == REST) {
                planned.passRestHour(settings);
            } else {
                planned.copyFrom(trial);
            }
            hours++;
        }
        return planned.isWetterThan(target) ? NONE : hours;
    }

    /** Answers the inlet moisture of the next planned hour, whose end then stands in trial, or REST. */
    private int chooseInlet() {
        for (int inlet = 0; inlet <= MAX_INLET; inlet += INLET_STEP) {
            trial.copyFrom(planned);
            trial.passDryingHour(inlet, settings);
            if (trial.greatestGradient() <= settings.strainLimit) {
                return inlet;
            }
        }
        return REST;
    }

    private static final class Settings {
        int diffusion = 100;
        int surface = 200;
        int capacity = 50;
        int strainLimit = 200;
        int humidity = 120;
        int reversalPeriod = 0;
    }

    private static final class Board {
        final int[] moisture;
        int checkedAt = NONE;
        int air = NONE;

        /** The caller has looked at layers: it is from 3 to 9. */
        Board(int layers, int moistureOfAll) {
            moisture = new int[layers];
            Arrays.fill(moisture, moistureOfAll);
        }

        int water() {
            int sum = 0;
            for (int i = 0; i < moisture.length; i++) {
                sum += moisture[i];
            }
            return sum;
        }

        int average() {
            return quotient(water(), moisture.length);
        }

        /** The strain of the document. */
        int gradient() {
            int greatest = 0;
            for (int i = 0; i < moisture.length; i++) {
                greatest = Math.max(greatest, moisture[i]);
            }
            return greatest - Math.min(moisture[0], moisture[moisture.length - 1]);
        }

        /** Answers the water given off. */
        int passDryingHour(int airHere, Settings settings) {
            air = airHere;
            int top = (moisture[0] - airHere) * settings.surface / THOUSAND;
            int bottom = (moisture[moisture.length - 1] - airHere) * settings.surface / THOUSAND;
            applyFlows(top, bottom, settings.diffusion);
            return top + bottom;
        }

        void passRestHour(int diffusion) {
            applyFlows(0, 0, diffusion);
        }

        /** A layer changes only after the flow to the next was taken, so every flow sees the hour's start. */
        private void applyFlows(int top, int bottom, int diffusion) {
            int entering = -top;
            for (int i = 0; i < moisture.length; i++) {
                int leaving = i + 1 < moisture.length
                        ? (moisture[i] - moisture[i + 1]) * diffusion / THOUSAND
                        : bottom;
                moisture[i] += entering - leaving;
                entering = leaving;
            }
        }

        void copyMoistureFrom(Board other) {
            int layers = Math.min(moisture.length, other.moisture.length);
            System.arraycopy(other.moisture, 0, moisture, 0, layers);
        }
    }

    /** The boards in their air stream: what a drying hour changes, and what a plan works on a copy of. */
    private static final class Load {
        boolean reversed = false;
        private int dryingHours = 0;
        private final ArrayList<Board> boards = new ArrayList<>();

        int size() {
            return boards.size();
        }

        boolean has(int number) {
            return number >= 0 && number < boards.size();
        }

        /** The caller has asked has(number). */
        Board boardAt(int number) {
            return boards.get(number);
        }

        void put(Board board) {
            boards.add(board);
        }

        /** Both loads hold boards of the same shapes; air and checks are no part of a plan and stay. */
        void copyFrom(Load other) {
            for (int i = 0; i < boards.size() && i < other.boards.size(); i++) {
                boards.get(i).copyMoistureFrom(other.boards.get(i));
            }
            reversed = other.reversed;
            dryingHours = other.dryingHours;
        }

        int water() {
            int sum = 0;
            for (int i = 0; i < boards.size(); i++) {
                sum += boards.get(i).water();
            }
            return sum;
        }

        int wettest() {
            int best = NONE;
            // No average is negative, so the first board always comes in.
            int greatest = -1;
            for (int i = 0; i < boards.size(); i++) {
                int average = boards.get(i).average();
                if (average > greatest) {
                    best = i;
                    greatest = average;
                }
            }
            return best;
        }

        int greatestAverage() {
            int greatest = 0;
            for (int i = 0; i < boards.size(); i++) {
                greatest = Math.max(greatest, boards.get(i).average());
            }
            return greatest;
        }

        /** No target is negative, so a load without boards is wetter than none. */
        boolean isWetterThan(int target) {
            return greatestAverage() > target;
        }

        int greatestGradient() {
            int greatest = 0;
            for (int i = 0; i < boards.size(); i++) {
                greatest = Math.max(greatest, boards.get(i).gradient());
            }
            return greatest;
        }

        int meanOf(int sample) {
            int sum = 0;
            for (int i = 0; i < boards.size(); i++) {
                if ((sample >> i & 1) == 1) {
                    sum += boards.get(i).average();
                }
            }
            return quotient(sum, Integer.bitCount(sample));
        }

        /** Answers the water given off by all boards. */
        int passDryingHour(int inlet, Settings settings) {
            int given = 0;
            for (int i = 0; i < boards.size(); i++) {
                int number = reversed ? boards.size() - 1 - i : i;
                int airHere = Math.max(0, inlet + quotient(given, settings.capacity));
                given += boards.get(number).passDryingHour(airHere, settings);
            }
            countDryingHour(settings.reversalPeriod);
            return given;
        }

        private void countDryingHour(int reversalPeriod) {
            dryingHours++;
            if (reversalPeriod > 0 && dryingHours % reversalPeriod == 0) {
                reversed = !reversed;
            }
        }

        void passRestHour(Settings settings) {
            for (int i = 0; i < boards.size(); i++) {
                boards.get(i).passRestHour(settings.diffusion);
            }
        }

        /** Answers how many boards got a check. */
        int recordChecks(int strainLimit, int hourNow) {
            int checks = 0;
            for (int i = 0; i < boards.size(); i++) {
                Board board = boards.get(i);
                if (board.checkedAt == NONE && board.gradient() > strainLimit) {
                    board.checkedAt = hourNow;
                    checks++;
                }
            }
            return checks;
        }
    }

    /** Stages with falling thresholds. */
    private static final class Schedule {
        private final int[] thresholds = new int[MAX_STAGES];
        private final int[] inlets = new int[MAX_STAGES];
        private int size = 0;

        int append(int threshold, int inlet) {
            int before = size - 1;
            if (before >= 0 && before < MAX_STAGES && threshold >= thresholds[before]) {
                return BAD_VALUE;
            }
            int stage = size;
            if (stage < 0 || stage >= MAX_STAGES) {
                return FULL;
            }
            thresholds[stage] = threshold;
            inlets[stage] = inlet;
            size++;
            return stage;
        }

        /** Answers how many stages there were. */
        int clear() {
            int removed = size;
            size = 0;
            return removed;
        }

        /** The thresholds fall, so the last one that is great enough is the lowest. */
        int stageFor(int controlMoisture) {
            int stage = NONE;
            for (int i = 0; i < size && i < MAX_STAGES; i++) {
                if (thresholds[i] >= controlMoisture) {
                    stage = i;
                }
            }
            return stage;
        }

        /** NONE is no stage either. */
        int inletOf(int stage, int otherwise) {
            return stage >= 0 && stage < MAX_STAGES ? inlets[stage] : otherwise;
        }
    }
}
