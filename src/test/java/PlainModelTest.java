import java.util.Random;

/** Random runs of calls, the same ones on a MeetingKit and on the plain model: all answers must be the same. */
public final class PlainModelTest {
    private static final int[] ACTS = {3, 3, 2, 3, 1, 5, 2, 3, 2, 3, 3, 5};
    private static final int[] MOST_N = {4, 4, 4, 4, 0, 0, 2, 0, 0, 0, 0, 0};

    private final Random random;
    private final MeetingKit kit = new MeetingKit();
    private final PlainModel model = new PlainModel();
    private final int[] kinds = new int[12];
    private int deviceCount = 0;
    private int threadCount = 0;
    private int reached = 0;

    private PlainModelTest(long seed) {
        random = new Random(seed);
    }

    public static void main(String[] args) {
        for (int seed = 0; seed < 6000; seed++) {
            PlainModelTest run = new PlainModelTest(seed);
            run.prepare(seed % 13);
            for (int round = 0; round < 6; round++) {
                run.change();
                run.goOn();
                run.compareAll("seed " + seed + ", round " + round);
            }
        }
        Check.end("plain model");
    }

    /** Kinds 0 .. 11 alone, twice each, so that threads meet often; 12: a bit of all. */
    private void prepare(int kind) {
        int devices = kind < 12 ? 2 : 1 + random.nextInt(12);
        int threads = 2 + random.nextInt(kind < 12 ? 5 : 15);
        for (int d = 0; d < devices; d++) {
            makeDevice(kind < 12 ? kind : random.nextInt(12));
        }
        for (int t = 0; t < threads; t++) {
            Check.due("thread", kit.thread(), model.thread());
            threadCount++;
        }
    }

    private void makeDevice(int kind) {
        int n = kind == 3 ? 1 + random.nextInt(4) : random.nextInt(MOST_N[kind] + 1);
        Check.due("device", kit.device(kind, n), model.device(kind, n));
        kinds[deviceCount] = kind;
        deviceCount++;
    }

    private void change() {
        int steps = random.nextInt(4 * threadCount);
        for (int s = 0; s < steps; s++) {
            addStep();
        }
        if (random.nextInt(3) > 0) {
            int thread = random.nextInt(threadCount + 1);
            int beat = reached + random.nextInt(7);
            Check.due("interrupt", kit.interrupt(thread, beat), model.interrupt(thread, beat));
        }
        if (random.nextInt(12) == 0) {
            int device = random.nextInt(deviceCount + 1);
            int beat = reached + random.nextInt(9);
            Check.due("close", kit.close(device, beat), model.close(device, beat));
        }
    }

    private void addStep() {
        int thread = random.nextInt(threadCount);
        int device = random.nextInt(deviceCount);
        int act = random.nextInt(20) == 0 ? random.nextInt(11) : random.nextInt(ACTS[kinds[device]]);
        int a = random.nextInt(15) == 0 ? random.nextInt(2000) - 1000 : random.nextInt(4);
        int patience = random.nextInt(3) > 0 ? 0 : 1 + random.nextInt(5);
        Check.due("step", kit.step(thread, device, act, a, patience), model.step(thread, device, act, a, patience));
    }

    private void goOn() {
        int until = reached + (random.nextInt(4) == 0 ? 300 : random.nextInt(6));
        int got = kit.run(until);
        Check.due("run", got, model.run(until));
        reached = got;
    }

    private void compareAll(String where) {
        for (int t = 0; t < threadCount; t++) {
            for (int what = 0; what < 4; what++) {
                Check.due(where + " tell", kit.tell(t, what), model.tell(t, what));
                for (int i = 0; i < 21; i++) {
                    Check.due(where + " outcome", kit.outcome(t, i, what), model.outcome(t, i, what));
                }
            }
            Check.due(where + " stuck", kit.stuck(t), model.stuck(t));
        }
        for (int d = 0; d < deviceCount; d++) {
            for (int what = 0; what < 5; what++) {
                Check.due(where + " state", kit.state(d, what), model.state(d, what));
            }
            for (int i = 0; i < 17; i++) {
                Check.due(where + " waiting", kit.waiting(d, i), model.waiting(d, i));
            }
            for (int i = 0; i < 50; i++) {
                Check.due(where + " passed", kit.passed(d, i), model.passed(d, i));
            }
        }
    }
}
