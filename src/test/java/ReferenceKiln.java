import java.util.ArrayList;
import java.util.List;

/**
 * The document a second time, written for plainness alone: every hour makes a new kiln of new rows.
 * ModelTest compares DryingKiln with it, PlanningTest asks it for plans.
 */
final class ReferenceKiln {
    List<long[]> boards = new ArrayList<>();
    List<Long> checks = new ArrayList<>();
    List<Long> airs = new ArrayList<>();
    List<long[]> stages = new ArrayList<>();
    long diffusion = 100;
    long surface = 200;
    long capacity = 50;
    long limit = 200;
    long humidity = 120;
    long period = 0;
    boolean reversed = false;
    long hour = 0;
    long evaporated = 0;
    long dryingHours = 0;

    ReferenceKiln copy() {
        ReferenceKiln c = new ReferenceKiln();
        for (long[] m : boards) {
            c.boards.add(m.clone());
        }
        c.checks.addAll(checks);
        c.airs.addAll(airs);
        c.stages.addAll(stages);
        c.diffusion = diffusion;
        c.surface = surface;
        c.capacity = capacity;
        c.limit = limit;
        c.humidity = humidity;
        c.period = period;
        c.reversed = reversed;
        c.hour = hour;
        c.evaporated = evaporated;
        c.dryingHours = dryingHours;
        return c;
    }

    static long average(long[] m) {
        long sum = 0;
        for (long x : m) {
            sum += x;
        }
        return Math.floorDiv(sum, (long) m.length);
    }

    static long strain(long[] m) {
        long most = Long.MIN_VALUE;
        for (long x : m) {
            most = Math.max(most, x);
        }
        long outer = m[0] < m[m.length - 1] ? m[0] : m[m.length - 1];
        return most - outer;
    }

    /** All flows of a board, from the top face (0) to the bottom face (n). */
    long[] flows(long[] m, boolean drying, long a) {
        int n = m.length;
        long[] f = new long[n + 1];
        // Flow i goes downwards into layer i, so what leaves the top face is its negative.
        f[0] = drying ? -((m[0] - a) * surface / 1000) : 0;
        for (int i = 1; i < n; i++) {
            f[i] = (m[i - 1] - m[i]) * diffusion / 1000;
        }
        f[n] = drying ? (m[n - 1] - a) * surface / 1000 : 0;
        return f;
    }

    /** Answers the water given off. */
    long hourPasses(boolean drying, long e) {
        long given = 0;
        int count = boards.size();
        for (int k = 0; k < count; k++) {
            int b = reversed ? count - 1 - k : k;
            long[] m = boards.get(b);
            long a = e + given / capacity;
            if (a < 0) {
                a = 0;
            }
            long[] f = flows(m, drying, a);
            long[] after = new long[m.length];
            for (int i = 0; i < m.length; i++) {
                after[i] = m[i] + f[i] - f[i + 1];
            }
            boards.set(b, after);
            if (drying) {
                given += f[m.length] - f[0];
                airs.set(b, a);
            }
        }
        hour++;
        for (int b = 0; b < count; b++) {
            if (checks.get(b) == Due.NONE && strain(boards.get(b)) > limit) {
                checks.set(b, hour);
            }
        }
        if (drying) {
            evaporated += given;
            dryingHours++;
            if (period > 0 && dryingHours % period == 0) {
                reversed = !reversed;
            }
        }
        return given;
    }

    boolean above(long target) {
        for (long[] m : boards) {
            if (average(m) > target) {
                return true;
            }
        }
        return false;
    }

    long stage() {
        long control = -1;
        for (long[] m : boards) {
            control = Math.max(control, average(m));
        }
        int best = -1;
        for (int s = 0; s < stages.size() && control >= 0; s++) {
            long t = stages.get(s)[0];
            if (t >= control && (best < 0 || t < stages.get(best)[0])) {
                best = s;
            }
        }
        return best < 0 ? Due.NONE : best;
    }

    long runSchedule(long target, long maxHours) {
        long run = 0;
        while (above(target) && run < maxHours) {
            long s = stage();
            hourPasses(true, s == Due.NONE ? humidity : stages.get((int) s)[1]);
            run++;
        }
        return run;
    }

    /** The inlet moistures, or REST, of the plan's hours; of a plan that is too long the first limitOfHours + 1. */
    List<Long> plan(long target, int limitOfHours) {
        List<Long> inlets = new ArrayList<>();
        ReferenceKiln now = copy();
        while (now.above(target) && inlets.size() <= limitOfHours) {
            ReferenceKiln next = null;
            long chosen = Due.REST;
            for (long e = 0; e <= 300 && next == null; e += 10) {
                ReferenceKiln tried = now.copy();
                tried.hourPasses(true, e);
                boolean fine = true;
                for (long[] m : tried.boards) {
                    fine &= strain(m) <= limit;
                }
                if (fine) {
                    next = tried;
                    chosen = e;
                }
            }
            if (next == null) {
                next = now.copy();
                next.hourPasses(false, 0);
            }
            now = next;
            inlets.add(chosen);
        }
        return inlets;
    }
}
