import java.util.List;
import java.util.Random;

/**
 * Random runs of calls, with a fixed seed, on DryingKiln and on the reference; every answer is compared. A run stays
 * within the 512 calls that the document promises answers for.
 */
public final class ModelTest {
    private static final int RUNS = 1000;
    private static final int PROMISED_CALLS = 512;
    /** A change and two looks take fewer calls than are left from here. */
    private static final int LAST_CHANGE = 300;

    private final Random random;
    private final DryingKiln kiln = new DryingKiln();
    private final ReferenceKiln model = new ReferenceKiln();
    private final String name;
    /** Some runs ask for extreme moistures and settings only. */
    private final boolean extreme;
    private int calls = 0;

    private ModelTest(int run) {
        random = new Random(run);
        name = "run " + run + ", ";
        extreme = run % 3 == 0;
    }

    public static void main(String[] args) {
        for (int run = 0; run < RUNS; run++) {
            ModelTest test = new ModelTest(run);
            for (int change = 0; test.calls < LAST_CHANGE; change++) {
                test.change(change);
                test.glance();
                if (test.random.nextInt(12) == 0) {
                    test.look();
                }
            }
            test.look();
            Due.holds(test.name + "stays within the promised calls", test.calls <= PROMISED_CALLS);
        }
        Due.finish();
    }

    private void same(String call, long got, long want) {
        calls++;
        Due.is(name + call, got, want);
    }

    /** Mostly inside the range, sometimes on or just outside its ends. */
    private int around(int least, int most) {
        int kind = random.nextInt(20);
        if (kind == 0) {
            return least - 1;
        }
        if (kind == 1) {
            return most + 1;
        }
        if (kind < 4 || extreme) {
            return random.nextBoolean() ? least : most;
        }
        return least + random.nextInt(most - least + 1);
    }

    private static boolean in(int value, int least, int most) {
        return least <= value && value <= most;
    }

    private void change(int number) {
        int kind = number < 3 ? 0 : random.nextInt(16);
        switch (kind) {
            case 0: addBoard(); break;
            case 1: case 2: case 3: setLayer(); break;
            case 4: case 5: case 6: setSetting(); break;
            case 7: setFan(); break;
            case 8: case 9: hours(true); break;
            case 10: case 11: hours(false); break;
            case 12: addStage(); break;
            case 13: schedule(); break;
            case 14: plan(); break;
            default: if (random.nextInt(6) == 0) { clearStages(); } else { plan(); }
        }
    }

    private void addBoard() {
        int layers = around(3, 9);
        int moisture = around(0, 2000);
        long want = model.boards.size();
        if (!in(layers, 3, 9) || !in(moisture, 0, 2000)) {
            want = Due.BAD_VALUE;
        } else if (want == 6) {
            want = Due.FULL;
        } else {
            long[] m = new long[layers];
            java.util.Arrays.fill(m, moisture);
            model.boards.add(m);
            model.checks.add((long) Due.NONE);
            model.airs.add((long) Due.NONE);
        }
        same("addBoard(" + layers + ", " + moisture + ")", kiln.addBoard(layers, moisture), want);
    }

    private void setLayer() {
        int board = random.nextInt(8) - 1;
        int layer = random.nextInt(6) == 0 ? random.nextInt(11) - 1 : random.nextInt(3);
        int moisture = around(0, 2000);
        long want;
        if (!in(board, 0, model.boards.size() - 1)) {
            want = Due.NO_SUCH_BOARD;
        } else if (!in(layer, 0, model.boards.get(board).length - 1)) {
            want = Due.NO_SUCH_LAYER;
        } else if (!in(moisture, 0, 2000)) {
            want = Due.BAD_VALUE;
        } else {
            want = model.boards.get(board)[layer];
            model.boards.get(board)[layer] = moisture;
        }
        same("setLayer", kiln.setLayer(board, layer, moisture), want);
    }

    private void setSetting() {
        int which = random.nextInt(6);
        int value;
        long want = Due.BAD_VALUE;
        switch (which) {
            case 0:
                value = around(1, 250);
                if (in(value, 1, 250)) { want = model.diffusion; model.diffusion = value; }
                same("setDiffusion", kiln.setDiffusion(value), want);
                break;
            case 1:
                value = around(1, 500);
                if (in(value, 1, 500)) { want = model.surface; model.surface = value; }
                same("setSurface", kiln.setSurface(value), want);
                break;
            case 2:
                value = random.nextBoolean() ? around(1, 10000) : around(1, 60);
                if (in(value, 1, 10000)) { want = model.capacity; model.capacity = value; }
                same("setCapacity", kiln.setCapacity(value), want);
                break;
            case 3:
                value = around(20, 900);
                if (in(value, 20, 900)) { want = model.limit; model.limit = value; }
                same("setStrainLimit", kiln.setStrainLimit(value), want);
                break;
            case 4:
                value = around(0, 300);
                if (in(value, 0, 300)) { want = model.humidity; model.humidity = value; }
                same("setHumidity", kiln.setHumidity(value), want);
                break;
            default:
                value = random.nextBoolean() ? around(0, 48) : around(0, 4);
                if (in(value, 0, 48)) { want = model.period; model.period = value; }
                same("setReversalPeriod", kiln.setReversalPeriod(value), want);
        }
    }

    private void setFan() {
        boolean reversed = random.nextBoolean();
        same("setFan", kiln.setFan(reversed), model.reversed == reversed ? 0 : 1);
        model.reversed = reversed;
    }

    private void hours(boolean drying) {
        int hours = random.nextInt(4) == 0 ? around(1, 200) : random.nextInt(8);
        long want = in(hours, 1, 200) ? 0 : Due.BAD_VALUE;
        long before = checked();
        for (int i = 0; in(hours, 1, 200) && i < hours; i++) {
            long given = model.hourPasses(drying, model.humidity);
            want += drying ? given : 0;
        }
        if (drying) {
            same("dry(" + hours + ")", kiln.dry(hours), want);
        } else {
            same("rest(" + hours + ")", kiln.rest(hours), want + checked() - before);
        }
    }

    private long checked() {
        long count = 0;
        for (long c : model.checks) {
            count += c == Due.NONE ? 0 : 1;
        }
        return count;
    }

    private void addStage() {
        int threshold = around(0, 2000);
        int inlet = around(0, 300);
        int count = model.stages.size();
        long want = count;
        boolean lower = count == 0 || threshold < model.stages.get(count - 1)[0];
        if (!in(threshold, 0, 2000) || !lower || !in(inlet, 0, 300)) {
            want = Due.BAD_VALUE;
        } else if (count == 8) {
            want = Due.FULL;
        } else {
            model.stages.add(new long[] {threshold, inlet});
        }
        same("addStage", kiln.addStage(threshold, inlet), want);
    }

    private void clearStages() {
        same("clearStages", kiln.clearStages(), model.stages.size());
        model.stages.clear();
    }

    private void schedule() {
        int target = around(0, 2000);
        int most = around(1, 200);
        boolean fine = in(target, 0, 2000) && in(most, 1, 200);
        long want = fine ? model.runSchedule(target, most) : Due.BAD_VALUE;
        same("runSchedule(" + target + ", " + most + ")", kiln.runSchedule(target, most), want);
    }

    private void plan() {
        int target = random.nextInt(4) == 0 ? around(0, 2000) : around(0, 400);
        if (!in(target, 0, 2000)) {
            same("plannedHours(" + target + ")", kiln.plannedHours(target), Due.BAD_VALUE);
            same("plannedInlet(" + target + ", 0)", kiln.plannedInlet(target, 0), Due.BAD_VALUE);
            return;
        }
        List<Long> inlets = model.plan(target, 300);
        boolean tooLong = inlets.size() > 300;
        same("plannedHours(" + target + ")", kiln.plannedHours(target), tooLong ? Due.NONE : inlets.size());
        int step = 1 + inlets.size() / 10;
        for (int hour = -1; hour <= inlets.size(); hour += step) {
            long want = tooLong || hour >= inlets.size() ? Due.NONE : hour < 0 ? Due.BAD_VALUE : inlets.get(hour);
            want = hour < 0 ? Due.BAD_VALUE : want;
            same("plannedInlet(" + target + ", " + hour + ")", kiln.plannedInlet(target, hour), want);
        }
    }

    private void glance() {
        same("hour()", kiln.hour(), model.hour);
        same("evaporated()", kiln.evaporated(), model.evaporated);
        same("isFanReversed()", kiln.isFanReversed(), model.reversed ? 1 : 0);
        same("currentStage()", kiln.currentStage(), model.stage());
    }

    private void look() {
        long water = 0;
        int wettest = Due.NONE;
        for (int b = 0; b < model.boards.size(); b++) {
            long[] m = model.boards.get(b);
            for (int i = 0; i < m.length; i++) {
                water += m[i];
                same("layerMoisture(" + b + ", " + i + ")", kiln.layerMoisture(b, i), m[i]);
            }
            same("averageMoisture(" + b + ")", kiln.averageMoisture(b), ReferenceKiln.average(m));
            same("strain(" + b + ")", kiln.strain(b), ReferenceKiln.strain(m));
            same("checkHour(" + b + ")", kiln.checkHour(b), model.checks.get(b));
            same("airMoisture(" + b + ")", kiln.airMoisture(b), model.airs.get(b));
            if (wettest < 0 || ReferenceKiln.average(m) > ReferenceKiln.average(model.boards.get(wettest))) {
                wettest = b;
            }
        }
        same("wettestBoard()", kiln.wettestBoard(), wettest);
        same("totalWater()", kiln.totalWater(), water);
        int sample = random.nextInt(1 << Math.min(7, model.boards.size() + 1));
        same("sampleError(" + sample + ")", kiln.sampleError(sample), sampleError(sample));
    }

    private long sampleError(int sample) {
        int count = model.boards.size();
        if (sample == 0 || sample >= 1 << count) {
            return Due.BAD_VALUE;
        }
        long inSample = 0;
        long inAll = 0;
        for (int b = 0; b < count; b++) {
            long average = ReferenceKiln.average(model.boards.get(b));
            inAll += average;
            inSample += (sample & 1 << b) != 0 ? average : 0;
        }
        return inSample / Integer.bitCount(sample) - inAll / count;
    }
}
