import java.util.Random;

/** Random runs of calls, the same ones on a MeetingKit and on the plain model: all answers must be the same. */
public final class PlainModelTest {
    private static final int[] ACTS = {3, 3, 2, 3, 1, 5, 2, 3, 2, 3, 3, 5};
    private static final int[] MOST_N = {4, 4, 4, 4, 0, 0, 2, 0, 0, 0, 0, 0};

    private static final int RUNS = 40000;
    private static final int ROUNDS = 6;
    /** After each round but the last: so few that an object's calls suffice for the steps of later rounds. */
    private static final int QUESTIONS = 12;

    private final Random random;
    private final Kit kit = new Kit();
    private final PlainModel model = new PlainModel();
    private final int[] kinds = new int[12];
    private int deviceCount = 0;
    private int threadCount = 0;
    private int reached = 0;

    private PlainModelTest(long seed) {
        random = new Random(seed);
    }

    public static void main(String[] args) {
        for (int seed = 0; seed < RUNS; seed++) {
            PlainModelTest run = new PlainModelTest(seed);
            run.prepare(seed % 13);
            for (int round = 1; round <= ROUNDS; round++) {
                run.change();
                run.goOn();
                run.ask("seed " + seed + ", round " + round, round == ROUNDS ? run.kit.callsLeft() : QUESTIONS);
            }
        }
        Check.end("plain model");
    }

    /** Kinds 0 .. 11 alone, twice each, so that threads meet often; 12: a bit of all. */
    private void prepare(int kind) {
        int devices = kind < 12 ? 2 : 1 + random.nextInt(12);
        int threads = 2 + random.nextInt(kind < 12 ? 5 : 15);
        for (int d = 0; d < devices; d++) {
            makeDevice(kind < 12 ? kind : random.nextInt(12));
        }
        for (int t = 0; t < threads; t++) {
            Check.due("thread", kit.thread(), model.thread());
            threadCount++;
        }
    }

    private void makeDevice(int kind) {
        int n = kind == 3 ? 1 + random.nextInt(4) : random.nextInt(MOST_N[kind] + 1);
        Check.due("device", kit.device(kind, n), model.device(kind, n));
        kinds[deviceCount] = kind;
        deviceCount++;
    }

    private void change() {
        int steps = random.nextInt(4 * threadCount);
        for (int s = 0; s < steps; s++) {
            addStep();
        }
        if (random.nextInt(3) > 0) {
            int thread = random.nextInt(threadCount + 1);
            int beat = reached + random.nextInt(7);
            Check.due("interrupt", kit.interrupt(thread, beat), model.interrupt(thread, beat));
        }
        if (random.nextInt(12) == 0) {
            int device = random.nextInt(deviceCount + 1);
            int beat = reached + random.nextInt(9);
            Check.due("close", kit.close(device, beat), model.close(device, beat));
        }
    }

    private void addStep() {
        int thread = random.nextInt(threadCount);
        int device = random.nextInt(deviceCount);
        int act = random.nextInt(20) == 0 ? random.nextInt(11) : random.nextInt(ACTS[kinds[device]]);
        int a = random.nextInt(15) == 0 ? random.nextInt(2000) - 1000 : random.nextInt(4);
        int patience = random.nextInt(3) > 0 ? 0 : 1 + random.nextInt(5);
        Check.due("step", kit.step(thread, device, act, a, patience), model.step(thread, device, act, a, patience));
    }

    private void goOn() {
        int until = reached + (random.nextInt(4) == 0 ? 300 : random.nextInt(6));
        int got = kit.run(until);
        Check.due("run", got, model.run(until));
        reached = got;
    }

    private void ask(String where, int questions) {
        for (int q = 0; q < questions; q++) {
            int thread = random.nextInt(threadCount + 1);
            int device = random.nextInt(deviceCount + 1);
            if (random.nextInt(2) == 0) {
                askOfThread(where, thread, random.nextInt(5));
            } else {
                askOfDevice(where, device, random.nextInt(6));
            }
        }
    }

    private void askOfThread(String where, int thread, int what) {
        int i = random.nextInt(Math.max(0, model.tell(thread, 0)) + 1);
        switch (random.nextInt(6)) {
            case 0:
                Check.due(where + " tell", kit.tell(thread, what), model.tell(thread, what));
                break;
            case 1:
                Check.due(where + " stuck", kit.stuck(thread), model.stuck(thread));
                break;
            default:
                Check.due(where + " outcome", kit.outcome(thread, i, what), model.outcome(thread, i, what));
                break;
        }
    }

    private void askOfDevice(String where, int device, int what) {
        switch (random.nextInt(3)) {
            case 0:
                Check.due(where + " state", kit.state(device, what), model.state(device, what));
                break;
            case 1:
                int place = random.nextInt(threadCount + 1);
                Check.due(where + " waiting", kit.waiting(device, place), model.waiting(device, place));
                break;
            default:
                int i = random.nextInt(50);
                Check.due(where + " passed", kit.passed(device, i), model.passed(device, i));
                break;
        }
    }
}
