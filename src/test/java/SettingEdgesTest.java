/** The boundary cases of promises 11 to 18, a method for each sentence that names one. */
public final class SettingEdgesTest {
    private static final int LEAST = Integer.MIN_VALUE;
    private static final int MOST = Integer.MAX_VALUE;

    private static final String[] NAMES = {
        "setDiffusion", "setSurface", "setCapacity", "setStrainLimit", "setHumidity", "setReversalPeriod"};
    /** For each name: the initial value, the least and the greatest that is accepted. */
    private static final int[][] RANGES = {{100, 1, 250}, {200, 1, 500}, {50, 1, 10000}, {200, 20, 900}, {120, 0, 300}, {0, 0, 48}};

    public static void main(String[] args) {
        everySettingLeastAndGreatest();
        everySettingRefusedBeyond();
        everySettingRefusedChangesNothing();
        everySettingLeavesTheOthers();
        diffusionOf1And250();
        surfaceOf1And500();
        capacityOf1And10000();
        strainLimitOf20And900();
        strainLimitKeepsChecks();
        humidityOf0And300();
        settingsHoldFromTheNextHour();
        setFanTellsAChange();
        setFanTurnsTheAir();
        setFanLeavesTheCounter();
        isFanReversedAfterBothWays();
        reversalPeriodOf0();
        reversalPeriodOf1();
        reversalPeriodOf48();
        reversalPeriodSetOnAMultiple();
        reversalCounterIsNeverReset();
        reversalHeedsNoRestHours();
        reversalWithinOneCall();
        reversalByScheduledHours();
        Due.finish();
    }

    private static int set(DryingKiln x, int which, int value) {
        switch (which) {
            case 0: return x.setDiffusion(value);
            case 1: return x.setSurface(value);
            case 2: return x.setCapacity(value);
            case 3: return x.setStrainLimit(value);
            case 4: return x.setHumidity(value);
            default: return x.setReversalPeriod(value);
        }
    }

    // ---- promises 11 to 15 and 18: the ranges

    private static void everySettingLeastAndGreatest() {
        for (int which = 0; which < NAMES.length; which++) {
            int[] r = RANGES[which];
            DryingKiln x = new DryingKiln();
            int previous = r[0];
            for (int value : new int[] {r[1], r[1] + 1, r[2] - 1, r[2], r[2], r[1]}) {
                Due.is(NAMES[which] + "(" + value + ")", set(x, which, value), previous);
                previous = value;
            }
        }
    }

    private static void everySettingRefusedBeyond() {
        for (int which = 0; which < NAMES.length; which++) {
            int[] r = RANGES[which];
            DryingKiln x = new DryingKiln();
            for (int value : new int[] {r[1] - 1, r[2] + 1, -1, -r[2], LEAST, LEAST + 1, MOST}) {
                Due.is(NAMES[which] + "(" + value + ")", set(x, which, value), Due.BAD_VALUE);
                Due.is(NAMES[which] + " after it", set(x, which, r[0]), r[0]);
            }
        }
    }

    private static void everySettingRefusedChangesNothing() {
        for (int which = 0; which < NAMES.length; which++) {
            int chosen = which;
            for (int value : new int[] {RANGES[which][1] - 1, RANGES[which][2] + 1}) {
                Refusal.isEverywhere(NAMES[which] + "(" + value + ")", x -> set(x, chosen, value), Due.BAD_VALUE);
            }
        }
    }

    private static void everySettingLeavesTheOthers() {
        for (int which = 0; which < NAMES.length; which++) {
            DryingKiln x = Kilns.full();
            set(x, which, RANGES[which][1] + 1);
            for (int other = 0; other < NAMES.length; other++) {
                int want = other == which ? RANGES[which][1] + 1 : RANGES[other][0];
                Due.is(NAMES[other] + " after " + NAMES[which], set(x, other, RANGES[other][2]), want);
            }
            Due.is(NAMES[which] + " leaves the fan", x.isFanReversed(), 0);
            Due.is(NAMES[which] + " runs no hour", x.hour(), 0);
            Due.is(NAMES[which] + " leaves the boards", x.totalWater(), 2700 + 3200 + 3500 + 3600 + 3500 + 3600);
        }
    }

    // ---- promises 11 to 15: what the least and the greatest value do

    private static void diffusionOf1And250() {
        // With 1, 999 is less than a thousandth; 1000 flows as 1, either way.
        int[][] rows = {{0, 999, 0}, {0, 1000, 0}, {1000, 0, 1000}, {999, 0, 1999}};
        int[][] after = {{0, 999, 0}, {1, 998, 1}, {999, 2, 999}, {999, 1, 1998}};
        for (int i = 0; i < rows.length; i++) {
            DryingKiln x = Kilns.withLayers(rows[i]);
            x.setDiffusion(1);
            x.rest(1);
            Kilns.layersAre("diffusion 1, row " + i, x, 0, after[i]);
        }
        DryingKiln y = Kilns.withLayers(0, 2000, 0);
        y.setDiffusion(250);
        y.rest(1);
        Kilns.layersAre("diffusion 250", y, 0, 500, 1000, 500);
        // 3 / 4 rounds toward zero either way, 4 / 4 does not.
        DryingKiln z = Kilns.withLayers(100, 103, 100, 104);
        z.setDiffusion(250);
        z.rest(1);
        Kilns.layersAre("diffusion 250, small differences", z, 0, 100, 103, 101, 103);
    }

    private static void surfaceOf1And500() {
        int[][] moistureAndFlow = {{999, 0}, {1000, 1}, {1999, 1}, {2000, 2}};
        for (int[] m : moistureAndFlow) {
            DryingKiln x = Kilns.withEvenBoards(1, 3, m[0]);
            x.setHumidity(0);
            x.setSurface(1);
            Due.is("surface 1 from " + m[0], x.dry(1), 2 * m[1]);
            Kilns.layersAre("surface 1 from " + m[0], x, 0, m[0] - m[1], m[0], m[0] - m[1]);
        }
        DryingKiln y = Kilns.withEvenBoards(1, 3, 2000);
        y.setHumidity(0);
        y.setSurface(500);
        Due.is("surface 500 from 2000", y.dry(1), 2000);
        Kilns.layersAre("surface 500 from 2000", y, 0, 1000, 2000, 1000);
        // 1 * 500 / 1000 rounds toward zero either way.
        for (int moisture : new int[] {99, 100, 101}) {
            DryingKiln z = Kilns.withEvenBoards(1, 3, moisture);
            z.setHumidity(100);
            z.setSurface(500);
            Due.is("surface 500, a difference of " + (moisture - 100), z.dry(1), 0);
        }
    }

    private static void capacityOf1And10000() {
        DryingKiln x = Kilns.withLayers(122, 120, 120);
        x.addBoard(3, 120);
        x.setSurface(500);
        x.setCapacity(1);
        x.dry(1);
        Due.is("capacity 1: water of 1", x.airMoisture(1), 121);
        // Five boards of 2000 give off 2000 each; only then the air has taken up 10000.
        DryingKiln y = Kilns.withEvenBoards(6, 3, 2000);
        y.setHumidity(0);
        y.setSurface(500);
        y.setCapacity(10000);
        Due.is("capacity 10000: dry(1)", y.dry(1), 10000 + 2 * 999);
        Due.is("capacity 10000: water of 8000", y.airMoisture(4), 0);
        Due.is("capacity 10000: water of 10000", y.airMoisture(5), 1);
        DryingKiln z = Kilns.withEvenBoards(6, 3, 2000);
        z.setLayer(0, 0, 1998);
        z.setHumidity(0);
        z.setSurface(500);
        z.setCapacity(10000);
        Due.is("capacity 10000, 1 less: dry(1)", z.dry(1), 9999 + 2000);
        Due.is("capacity 10000: water of 9999", z.airMoisture(5), 0);
    }

    private static void strainLimitOf20And900() {
        for (int limit : new int[] {20, 900}) {
            for (int strain : new int[] {limit, limit + 1}) {
                DryingKiln x = Kilns.withLayers(0, strain, 0);
                x.setDiffusion(1);
                x.setStrainLimit(limit);
                Due.is("limit " + limit + ", strain " + strain, x.rest(1), strain - limit);
            }
        }
    }

    /** "Checks that were recorded before stay", and a lower limit alone records none. */
    private static void strainLimitKeepsChecks() {
        DryingKiln x = Kilns.withLayers(0, 201, 0);
        Kilns.addLayers(x, 0, 200, 0);
        x.setDiffusion(1);
        x.rest(1);
        x.setStrainLimit(900);
        Due.is("a greater limit keeps the check", x.checkHour(0), 1);
        x.rest(1);
        Due.is("and so does an hour under it", x.checkHour(0), 1);
        x.setStrainLimit(20);
        Due.is("a lower limit keeps the check", x.checkHour(0), 1);
        Due.is("a lower limit records none", x.checkHour(1), Due.NONE);
        Due.is("the next hour does", x.rest(1), 1);
        Due.is("in its hour", x.checkHour(1), 3);
    }

    private static void humidityOf0And300() {
        for (int humidity : new int[] {0, 300}) {
            DryingKiln x = Kilns.withEvenBoards(1, 3, 150);
            x.setHumidity(humidity);
            Due.is("humidity " + humidity + ": dry(1)", x.dry(1), humidity == 0 ? 60 : -60);
            Due.is("humidity " + humidity + ": airMoisture(0)", x.airMoisture(0), humidity);
        }
    }

    private static void settingsHoldFromTheNextHour() {
        DryingKiln x = Kilns.withEvenBoards(2, 3, 620);
        x.dry(1);
        int water = x.totalWater();
        x.setHumidity(300);
        x.setCapacity(1);
        x.setSurface(500);
        x.setDiffusion(250);
        Due.is("settings leave the air of before", x.airMoisture(0), 120);
        Due.is("settings leave the air of before, board 1", x.airMoisture(1), 124);
        Due.is("settings leave the water", x.totalWater(), water);
        Due.is("settings leave what was given off", x.evaporated(), 398);
    }

    // ---- promises 16 and 17: the fan

    private static void setFanTellsAChange() {
        DryingKiln x = new DryingKiln();
        boolean[] reversed = {false, true, true, false, false, true, false, true};
        int[] changed = {0, 1, 0, 1, 0, 1, 1, 1};
        for (int i = 0; i < reversed.length; i++) {
            Due.is("setFan(" + reversed[i] + ") as call " + i, x.setFan(reversed[i]), changed[i]);
            Due.is("isFanReversed() after call " + i, x.isFanReversed(), reversed[i] ? 1 : 0);
        }
        Refusal.changesNothing("setFan(false) at first", Kilns::leaveEmpty, k -> k.setFan(false));
        Refusal.changesNothing("isFanReversed()", Kilns::useMuch, k -> k.isFanReversed());
    }

    private static void setFanTurnsTheAir() {
        // 620 in air of 120 gives off 200, and so on: 398, 594, 788, 982 and 1174 in all, each divided by 50.
        int[] airs = {120, 124, 127, 131, 135, 139};
        for (int reversed = 0; reversed < 2; reversed++) {
            DryingKiln x = Kilns.withEvenBoards(6, 3, 620);
            x.setFan(reversed == 1);
            Due.is("six boards in the air", x.dry(1), 1174);
            for (int board = 0; board < 6; board++) {
                int place = reversed == 1 ? 5 - board : board;
                Due.is("the air at board " + board + ", fan " + reversed, x.airMoisture(board), airs[place]);
            }
            x.setFan(reversed == 0);
            Due.is("setFan leaves the air of before", x.airMoisture(0), reversed == 1 ? 139 : 120);
            x.setHumidity(0);
            x.dry(1);
            Due.is("the air then comes from the other side", x.airMoisture(reversed == 1 ? 0 : 5), 0);
        }
        DryingKiln one = Kilns.withEvenBoards(1, 3, 620);
        one.setFan(true);
        Due.is("one board, reversed", one.dry(1), 200);
        DryingKiln none = new DryingKiln();
        none.setFan(true);
        Due.is("no board, reversed", none.dry(1), 0);
    }

    private static void setFanLeavesTheCounter() {
        DryingKiln x = new DryingKiln();
        x.setReversalPeriod(3);
        x.dry(2);
        x.setFan(true);
        x.dry(1);
        Due.is("the third drying hour turns the fan back", x.isFanReversed(), 0);
        x.setFan(false);
        x.dry(2);
        Due.is("two hours on", x.isFanReversed(), 0);
        x.dry(1);
        Due.is("the sixth turns it again", x.isFanReversed(), 1);
    }

    private static void isFanReversedAfterBothWays() {
        DryingKiln x = new DryingKiln();
        x.setReversalPeriod(1);
        x.dry(1);
        Due.is("turned by itself", x.isFanReversed(), 1);
        Due.is("setFan(true) is no change then", x.setFan(true), 0);
        Due.is("setFan(false) is one", x.setFan(false), 1);
        x.dry(1);
        Due.is("turned by itself from where it was set", x.isFanReversed(), 1);
        x.dry(1);
        Due.is("and back", x.isFanReversed(), 0);
        Due.is("setFan(true) is a change then", x.setFan(true), 1);
    }

    // ---- promise 18: setReversalPeriod

    /** "0 (the fan does not change its direction by itself)". */
    private static void reversalPeriodOf0() {
        for (int reversed = 0; reversed < 2; reversed++) {
            DryingKiln x = new DryingKiln();
            x.setReversalPeriod(7);
            Due.is("setReversalPeriod(0)", x.setReversalPeriod(0), 7);
            x.setFan(reversed == 1);
            for (int i = 0; i < 100; i++) {
                x.dry(1);
                Due.is("period 0 after " + (i + 1) + " drying hours", x.isFanReversed(), reversed);
            }
        }
    }

    private static void reversalPeriodOf1() {
        DryingKiln x = new DryingKiln();
        x.setReversalPeriod(1);
        for (int i = 1; i <= 100; i++) {
            x.dry(1);
            Due.is("period 1 after " + i + " drying hours", x.isFanReversed(), i % 2);
        }
    }

    private static void reversalPeriodOf48() {
        DryingKiln x = new DryingKiln();
        x.setReversalPeriod(48);
        for (int i = 1; i <= 150; i++) {
            x.dry(1);
            int want = i < 48 ? 0 : i < 96 ? 1 : i < 144 ? 0 : 1;
            Due.is("period 48 after " + i + " drying hours", x.isFanReversed(), want);
        }
    }

    private static void reversalPeriodSetOnAMultiple() {
        DryingKiln x = new DryingKiln();
        x.dry(6);
        x.setReversalPeriod(3);
        Due.is("setting a period that divides the counter", x.isFanReversed(), 0);
        x.rest(5);
        Due.is("rest hours after it", x.isFanReversed(), 0);
        x.dry(2);
        Due.is("two drying hours after it", x.isFanReversed(), 0);
        x.dry(1);
        Due.is("the next multiple", x.isFanReversed(), 1);
        DryingKiln y = new DryingKiln();
        y.setReversalPeriod(2);
        y.dry(1);
        y.setReversalPeriod(2);
        y.dry(1);
        Due.is("the same period again does not begin anew", y.isFanReversed(), 1);
    }

    /** "an internal counter, which starts at 0 and is never reset". */
    private static void reversalCounterIsNeverReset() {
        for (int period = 1; period <= 48; period++) {
            DryingKiln x = new DryingKiln();
            x.setReversalPeriod(5);
            x.dry(95);
            x.clearStages();
            x.addBoard(3, 500);
            x.setReversalPeriod(0);
            x.dry(48);
            x.setFan(false);
            x.setReversalPeriod(period);
            x.dry(1);
            Due.is("period " + period + " in drying hour 144", x.isFanReversed(), 144 % period == 0 ? 1 : 0);
        }
    }

    private static void reversalHeedsNoRestHours() {
        DryingKiln x = new DryingKiln();
        x.setReversalPeriod(4);
        x.dry(3);
        x.rest(4);
        Due.is("three drying and four rest hours", x.isFanReversed(), 0);
        x.dry(1);
        Due.is("four drying hours", x.isFanReversed(), 1);
        x.rest(1);
        Due.is("a rest hour on a multiple", x.isFanReversed(), 1);
        x.rest(200);
        Due.is("200 rest hours on a multiple", x.isFanReversed(), 1);
    }

    private static void reversalWithinOneCall() {
        DryingKiln x = Kilns.withEvenBoards(2, 3, 1000);
        x.setReversalPeriod(1);
        x.dry(2);
        Due.is("the second hour came from the other side", x.airMoisture(1), 120);
        Due.is("and the fan is forward again", x.isFanReversed(), 0);
        x.dry(1);
        Due.is("the third came from this side", x.airMoisture(0), 120);
        Due.is("an hour's air is that before the fan turned", x.isFanReversed(), 1);
        DryingKiln y = new DryingKiln();
        y.setReversalPeriod(48);
        y.dry(200);
        Due.is("200 hours turn it four times", y.isFanReversed(), 0);
        y.dry(40);
        Due.is("240 hours turn it five times", y.isFanReversed(), 1);
    }

    private static void reversalByScheduledHours() {
        DryingKiln x = Kilns.withEvenBoards(1, 3, 2000);
        x.setReversalPeriod(5);
        x.dry(2);
        Due.is("runSchedule(0, 2)", x.runSchedule(0, 2), 2);
        Due.is("four drying hours", x.isFanReversed(), 0);
        Due.is("runSchedule(0, 1)", x.runSchedule(0, 1), 1);
        Due.is("five drying hours", x.isFanReversed(), 1);
        Due.is("a schedule without hours", x.runSchedule(2000, 200), 0);
        Due.is("does not turn the fan", x.isFanReversed(), 1);
    }
}
