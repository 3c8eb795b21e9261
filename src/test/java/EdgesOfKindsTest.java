/** The edges that all kinds of term 2 have: the bounds of n, and the acts that are none. */
public final class EdgesOfKindsTest {
    private static final int NONE = MeetingKit.NONE;
    private static final int[] LEAST_N = {0, 0, 0, 1, 0, 0, 0, 0, 0, 0, 0, 0};
    private static final int[] MOST_N = {100, 100, 100, 16, 0, 0, 8, 0, 0, 0, 0, 0};
    private static final int[] LAST_ACT = {2, 2, 1, 2, 0, 4, 1, 2, 1, 2, 2, 4};
    /** The act ahead of the last one that makes the last one fit, or NONE; and what the last one then comes to. */
    private static final int[] AHEAD = {NONE, NONE, NONE, NONE, NONE, 1, NONE, 0, NONE, 0, NONE, 0};
    private static final int[] LAST_OUTCOME = {0, 0, 0, 0, 1, 0, 1, 0, 1, 0, 0, 0};

    public static void main(String[] args) {
        for (int kind = 0; kind < 12; kind++) {
            leastN(kind);
            mostN(kind);
            lastAct(kind);
            otherActs(kind);
        }
        Check.end("edges of kinds");
    }

    /** Two devices and two threads, one of which waits. */
    private static Kit scene() {
        Kit kit = Check.kit(2, 2, 1, 10, 0);
        Check.script(kit, 0, 0, 0, 0);
        Check.due("run", kit.run(1), 1);
        return kit;
    }

    /** "n of them at first (0 .. 100)", "n parties (1 .. 16)", "(n 0)" and so on: the least n. */
    private static void leastN(int kind) {
        Check.due("least n of kind " + kind, scene().device(kind, LEAST_N[kind]), 2);
        int[] others = {LEAST_N[kind] - 1, -100, Integer.MIN_VALUE};
        for (int n : others) {
            Check.refused("n " + n + " of kind " + kind, EdgesOfKindsTest::scene, kit -> kit.device(kind, n), NONE);
        }
    }

    /** The most n. */
    private static void mostN(int kind) {
        Check.due("most n of kind " + kind, scene().device(kind, MOST_N[kind]), 2);
        int[] others = {MOST_N[kind] + 1, 101, Integer.MAX_VALUE};
        for (int n : others) {
            Check.refused("n " + n + " of kind " + kind, EdgesOfKindsTest::scene, kit -> kit.device(kind, n), NONE);
        }
    }

    /** "acts (others are misuse: 6)": the last one that is none. */
    private static void lastAct(int kind) {
        Kit kit = Check.kit(1, kind, Math.max(LEAST_N[kind], Math.min(1, MOST_N[kind])));
        int steps = 0;
        if (AHEAD[kind] != NONE) {
            Check.script(kit, 0, 0, AHEAD[kind], 1);
            steps++;
        }
        Check.script(kit, 0, 0, LAST_ACT[kind], 1);
        kit.run(9);
        Check.ended(kit, "last act of kind " + kind, 0, steps, LAST_OUTCOME[kind]);
    }

    /** "acts (others are misuse: 6)": all the others that a step may have, and nothing is done. */
    private static void otherActs(int kind) {
        for (int thread = 0; thread < 2; thread++) {
            Kit kit = Check.kit(2, kind, Math.max(LEAST_N[kind], Math.min(2, MOST_N[kind])));
            Check.script(kit, 0, 0, 0, 1);
            Check.due("run", kit.run(1), 1);
            if (kit.tell(thread, 2) == NONE) {
                otherActsBy(kit, kind, thread);
            }
        }
    }

    /** By thread 1, that was not there yet, and by thread 0, that has what act 0 gave it. */
    private static void otherActsBy(Kit kit, int kind, int thread) {
        int[] states = {kind, kit.state(0, 1), 0, kit.state(0, 3), kit.state(0, 4)};
        int passed = kit.passed(0, 0) == NONE ? 0 : 1;
        int had = kit.tell(thread, 0);
        for (int act = LAST_ACT[kind] + 1; act < 10; act++) {
            Check.script(kit, thread, 0, act, 0, 0, act, 1);
        }
        kit.run(50);
        int steps = kit.tell(thread, 0);
        Check.due("all begun", kit.tell(thread, 1), steps);
        for (int i = had; i < steps; i++) {
            Check.ended(kit, "another act of kind " + kind, thread, i, 6, 0, 2 + i - had, 2 + i - had);
        }
        Check.state(kit, "as it was", 0, states);
        Check.due("nobody else passed", kit.passed(0, passed), NONE);
    }
}
