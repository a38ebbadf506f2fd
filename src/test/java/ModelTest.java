import java.util.ArrayList;
import java.util.Arrays;
import java.util.List;
import java.util.TreeMap;

/** Long runs of calls, each answer held against a model that follows the document's words job by job. */
public final class ModelTest {
    private static final int RUNS = 600;
    private static final int CALLS = 512;
    private static final int[] PERIODS = {2, 3, 4, 5, 6, 10, 12, 15, 20, 30, 60};

    private static long state = 20261115L;
    // By first core * 3 + second core.
    private static final int[] SPLITS = new int[9];
    private static int splitsBelowCMinus1 = 0;
    private static int refusals = 0;
    private static int fulls = 0;

    private record Part(int id, int c, int d, int p) {
    }

    private record Task(int p, int first, Part firstPart, int second, Part secondPart) {
    }

    private static final class Job {
        final Part part;
        final int release;
        int had = 0;
        int end = -1;

        Job(Part part, int release) {
            this.part = part;
            this.release = release;
        }

        int deadline() {
            return release + part.d();
        }
    }

    /** One core over slots 0 to 59, with a job of its own for every release. */
    private static final class CoreRun {
        final int[] ran = new int[60];
        final List<Job> jobs = new ArrayList<>();

        CoreRun(List<Part> parts) {
            for (Part part : parts) {
                for (int r = 0; r < 60; r += part.p()) {
                    jobs.add(new Job(part, r));
                }
            }
            for (int slot = 0; slot < 60; slot++) {
                step(slot);
            }
        }

        private void step(int slot) {
            Job best = null;
            for (Job job : jobs) {
                boolean ready = job.release <= slot && job.had < job.part.c();
                if (ready && (best == null || before(job, best))) {
                    best = job;
                }
            }
            ran[slot] = best == null ? -5 : best.part.id();
            if (best != null && ++best.had == best.part.c()) {
                best.end = slot;
            }
        }

        private static boolean before(Job one, Job other) {
            return one.deadline() != other.deadline() ? one.deadline() < other.deadline()
                : one.part.id() < other.part.id();
        }

        boolean misses() {
            for (Job job : jobs) {
                if (job.deadline() <= 60 && (job.end < 0 || job.end >= job.deadline())) {
                    return true;
                }
            }
            return false;
        }

        int response(int id) {
            int longest = 0;
            for (Job job : jobs) {
                if (job.part.id() == id) {
                    longest = Math.max(longest, job.end - job.release + 1);
                }
            }
            return longest;
        }
    }

    private static final class Model {
        final int cores;
        final TreeMap<Integer, Task> tasks = new TreeMap<>();

        Model(int cores) {
            this.cores = Math.max(1, Math.min(3, cores));
        }

        List<Part> parts(int core) {
            List<Part> list = new ArrayList<>();
            for (Task task : tasks.values()) {
                if (task.first() == core) {
                    list.add(task.firstPart());
                }
                if (task.second() == core) {
                    list.add(task.secondPart());
                }
            }
            return list;
        }

        boolean takes(int core, Part part) {
            List<Part> list = parts(core);
            list.add(part);
            return !new CoreRun(list).misses();
        }

        int freeId() {
            int id = 0;
            while (tasks.containsKey(id)) {
                id++;
            }
            return id;
        }

        boolean badPeriod(int p) {
            return p < 2 || p > 60 || 60 % p != 0;
        }

        boolean badCore(int core) {
            return core < 0 || core >= cores;
        }

        int admit(int c, int d, int p) {
            if (badPeriod(p)) {
                return -1;
            }
            if (c < 1 || c > p || d < 1 || d > p || c > d) {
                return -2;
            }
            if (tasks.size() == 12) {
                return -3;
            }
            int id = freeId();
            Task task = whole(id, c, d, p);
            if (task == null) {
                task = split(id, c, d, p);
            }
            if (task == null) {
                return -4;
            }
            tasks.put(id, task);
            return id;
        }

        Task whole(int id, int c, int d, int p) {
            Part part = new Part(id, c, d, p);
            for (int core = 0; core < cores; core++) {
                if (takes(core, part)) {
                    return new Task(p, core, part, -4, null);
                }
            }
            return null;
        }

        Task split(int id, int c, int d, int p) {
            for (int x = c - 1; x >= 1; x--) {
                Part one = new Part(id, x, x, p);
                Part two = new Part(id, c - x, d - x, p);
                boolean[] takesTwo = new boolean[cores];
                for (int j = 0; j < cores; j++) {
                    takesTwo[j] = takes(j, two);
                }
                for (int i = 0; i < cores; i++) {
                    if (!takes(i, one)) {
                        continue;
                    }
                    for (int j = 0; j < cores; j++) {
                        if (j != i && takesTwo[j]) {
                            return new Task(p, i, one, j, two);
                        }
                    }
                }
            }
            return null;
        }

        int remove(int id) {
            return tasks.remove(id) == null ? -5 : tasks.size();
        }

        int core(int id) {
            return tasks.containsKey(id) ? tasks.get(id).first() : -5;
        }

        int secondCore(int id) {
            return tasks.containsKey(id) ? tasks.get(id).second() : -5;
        }

        int firstCost(int id) {
            return tasks.containsKey(id) ? tasks.get(id).firstPart().c() : -5;
        }

        int load(int core) {
            return badCore(core) ? -6 : parts(core).stream().mapToInt(part -> part.c() * (60 / part.p())).sum();
        }

        int running(int core, int slot) {
            if (badCore(core)) {
                return -6;
            }
            return slot < 0 || slot > 59 ? -7 : new CoreRun(parts(core)).ran[slot];
        }

        int response(int core, int id) {
            if (badCore(core)) {
                return -6;
            }
            boolean here = parts(core).stream().anyMatch(part -> part.id() == id);
            return here ? new CoreRun(parts(core)).response(id) : -5;
        }

        int spare(int core, int p) {
            if (badCore(core)) {
                return -6;
            }
            if (badPeriod(p)) {
                return -1;
            }
            int x = p;
            while (x > 0 && !takes(core, new Part(freeId(), x, p, p))) {
                x--;
            }
            return x;
        }
    }

    public static void main(String[] args) {
        for (int run = 0; run < RUNS; run++) {
            oneRun(run);
        }
        System.out.println("splits " + Arrays.toString(SPLITS) + ", below c - 1 " + splitsBelowCMinus1
            + ", without a core " + refusals + ", full " + fulls);
        for (int pair = 0; pair < 9; pair++) {
            boolean other = pair / 3 != pair % 3;
            Due.holds("the runs split over cores " + pair / 3 + " and " + pair % 3, !other || SPLITS[pair] >= 20);
        }
        Due.holds("the runs reach smaller first parts, refusals and twelve tasks",
            splitsBelowCMinus1 >= 100 && refusals >= 100 && fulls >= 100);
        Due.end();
    }

    private static void oneRun(int run) {
        int cores = from(-1, 5);
        SemiPartEdf x = new SemiPartEdf(cores);
        Model model = new Model(cores);
        // Small tasks in some runs, so that twelve of them fit; greater ones in others, of few periods and with
        // late deadlines, so that many are split.
        int size = from(1, 4);
        boolean few = from(0, 1) == 0;
        for (int call = 0; call < CALLS; call++) {
            String where = "run " + run + " of " + cores + " cores, call " + call + ": ";
            int kind = from(0, 14);
            if (kind < 2) {
                int id = from(0, 9) == 0 ? anyNumber() : from(-1, 13);
                Due.is(where + "remove(" + id + ")", x.remove(id), model.remove(id));
            } else if (kind > 5) {
                ask(where, x, model);
            } else if (from(0, 19) == 0) {
                admit(where, x, model, anyNumber(), anyNumber(), anyNumber());
            } else if (few) {
                int p = PERIODS[from(5, 6) + from(0, 1) * 4];
                int c = from(p / 4, p * 3 / 4);
                admit(where, x, model, c, from(Math.max(c, p - 4), p), p);
            } else {
                int p = PERIODS[from(0, PERIODS.length - 1)];
                int c = from(1, Math.max(1, p * size / 5));
                admit(where, x, model, c, from(0, 2) == 0 ? from(c, p) : p, p);
            }
        }
    }

    private static void admit(String where, SemiPartEdf x, Model model, int c, int d, int p) {
        int want = model.admit(c, d, p);
        Due.is(where + "admit(" + c + ", " + d + ", " + p + ")", x.admit(c, d, p), want);
        refusals += want == -4 ? 1 : 0;
        fulls += want == -3 ? 1 : 0;
        if (want >= 0 && model.secondCore(want) >= 0) {
            SPLITS[model.core(want) * 3 + model.secondCore(want)]++;
            splitsBelowCMinus1 += model.firstCost(want) < c - 1 ? 1 : 0;
        }
    }

    private static void ask(String where, SemiPartEdf x, Model model) {
        boolean odd = from(0, 9) == 0;
        int id = odd ? anyNumber() : from(-1, 13);
        int core = from(0, 19) == 0 ? anyNumber() : from(-1, 3);
        int slot = odd ? anyNumber() : from(-1, 60);
        int p = odd ? anyNumber() : PERIODS[from(0, PERIODS.length - 1)];
        switch (from(0, 6)) {
            case 0 -> Due.is(where + "core(" + id + ")", x.core(id), model.core(id));
            case 1 -> Due.is(where + "secondCore(" + id + ")", x.secondCore(id), model.secondCore(id));
            case 2 -> Due.is(where + "firstCost(" + id + ")", x.firstCost(id), model.firstCost(id));
            case 3 -> Due.is(where + "load(" + core + ")", x.load(core), model.load(core));
            case 4 -> Due.is(where + "running(" + core + ", " + slot + ")",
                x.running(core, slot), model.running(core, slot));
            case 5 -> Due.is(where + "response(" + core + ", " + id + ")",
                x.response(core, id), model.response(core, id));
            default -> Due.is(where + "spare(" + core + ", " + p + ")", x.spare(core, p), model.spare(core, p));
        }
    }

    // Around what the document allows, or one of the ends of int.
    private static int anyNumber() {
        int pick = from(-3, 65);
        return pick == 64 ? Integer.MIN_VALUE : pick == 65 ? Integer.MAX_VALUE : pick;
    }

    // A fixed sequence, the same in every run of the test.
    private static int from(int low, int high) {
        state = state * 6364136223846793005L + 1442695040888963407L;
        return low + (int) ((state >>> 33) % (high - low + 1));
    }
}
