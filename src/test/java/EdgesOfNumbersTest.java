/**
 * "THREADS (at most 16, from 0 on)", "DEVICES (at most 12, from 0 on)": what one does at a device is the same
 * whichever thread it is, the last one too, and whichever device. "KINDS, acts .., with their number a": where an act
 * is told without a number, a step's number changes nothing.
 */
public final class EdgesOfNumbersTest {
    private static final int ROLES = 3;
    private static final int FIELDS = 5;
    private static final int ALL_THREADS = 16;
    private static final int LAST_DEVICE = 11;
    private static final int[] NS = {1, 1, 2, 3, 0, 0, 1, 0, 0, 0, 0, 0};

    /** By kind: role, act, a, the outcome and the value that the step has at once, role, act, a .. */
    private static final int[][] PLAYS = {
        {0, 0, 1, 0, 0, 1, 0, 2, 1, 0, 2, 0, 1, 1, 0, 0, 1, 3, 0, 3, 1, 2, 1, 7, 0},
        {0, 0, 2, 1, 0, 1, 0, 1, 1, 0, 2, 2, 1, 7, 0, 2, 1, 1, 0, 2, 2, 1, 1, 0, 1},
        {0, 0, 0, 1, 0, 1, 0, 0, 1, 0, 2, 1, 0, 0, 1, 2, 1, 0, 0, 0, 2, 0, 0, 0, 0},
        {0, 0, 0, 1, 0, 1, 0, 0, 1, 0, 2, 0, 0, 0, 2, 0, 0, 0, 1, 0, 1, 1, 0, 0, 0, 2, 2, 0, 0, 0},
        {0, 0, 7, 1, 0, 1, 0, 8, 0, 7, 2, 0, 9, 1, 0, 0, 0, 5, 0, 9},
        {0, 0, 0, 0, 0, 1, 0, 0, 0, 0, 0, 3, 0, 1, 0, 2, 1, 0, 1, 0, 1, 2, 0, 0, 0,
            1, 0, 0, 1, 0, 0, 4, 0, 0, 0, 0, 2, 0, 0, 0, 2, 2, 0, 0, 0, 1, 3, 0, 0, 0, 1, 2, 0, 0, 0},
        {0, 0, 5, 0, 0, 1, 0, 6, 1, 0, 2, 1, 0, 0, 5, 2, 1, 0, 0, 6, 0, 1, 0, 1, 0, 1, 0, 8, 0, 0},
        {0, 0, 0, 0, 0, 1, 0, 0, 0, 1, 2, 1, 1, 1, 0, 0, 1, 0, 1, 0, 1, 2, 0, 0, 0, 1, 2, 0, 0, 1, 0, 1, 2, 6, 0},
        {0, 1, 0, 1, 0, 1, 1, 0, 1, 0, 2, 0, 9, 0, 0, 0, 1, 0, 0, 9, 1, 0, 8, 6, 0},
        {0, 0, 0, 0, 0, 1, 0, 0, 0, 0, 0, 1, 0, 1, 0, 2, 0, 0, 0, 0, 1, 1, 0, 0, 1, 0, 1, 0, 1, 0, 1, 1, 0, 1, 0,
            2, 1, 0, 0, 2, 0, 1, 0, 1, 0, 1, 2, 0, 0, 2, 2, 2, 0, 0, 3, 0, 1, 0, 0, 4, 1, 1, 0, 6, 0},
        {0, 0, 0, 0, 0, 1, 2, 0, 1, 0, 2, 2, 0, 1, 0, 0, 1, 0, 0, 0, 1, 2, 0, 0, 0},
        {0, 0, 0, 0, 0, 1, 0, 0, 1, 0, 0, 2, 3, 1, 0, 2, 0, 0, 1, 0, 1, 3, 3, 0, 1, 1, 2, 0, 1, 0,
            2, 4, 0, 0, 1, 2, 1, 0, 0, 0, 0, 1, 0, 0, 0, 1, 1, 0, 0, 0, 1, 1, 0, 6, 0},
    };

    /** By kind: the acts that have a number, as bits. */
    private static final int[] NUMBERED = {7, 7, 0, 0, 1, 0, 1, 2, 1, 0, 0, 28};
    private static final int[] NUMBERS = {-1000000, -1, 1, 4, 101, 1000000};

    /** By roles: the threads that play them. */
    private static final int[][] CASTS = {
        {0, 1, 2}, {0, 7, 15}, {0, 15, 7}, {7, 0, 15}, {7, 15, 0}, {15, 0, 7}, {15, 7, 0}, {13, 14, 15}, {15, 14, 13},
    };

    public static void main(String[] args) {
        for (int kind = 0; kind < PLAYS.length; kind++) {
            String first = play(kind, 0, CASTS[0], 0);
            for (int[] cast : CASTS) {
                same("kind " + kind + " with thread " + cast[0] + " ahead", play(kind, 0, cast, 0), first);
            }
            same("kind " + kind + " as the last device", play(kind, LAST_DEVICE, CASTS[CASTS.length - 1], 0), first);
            for (int number : NUMBERS) {
                same("kind " + kind + " with " + number + " for none", play(kind, 0, CASTS[0], number), first);
            }
        }
        Check.end("edges of the numbers");
    }

    private static void same(String what, String got, String want) {
        Check.due(what + ":\n" + got + "\ninstead of\n" + want + "\n", got.equals(want), true);
    }

    /**
     * A kind's play, a step a beat, with a number for the acts that have none; answers all that is told of it, with
     * roles instead of threads.
     */
    private static String play(int kind, int device, int[] cast, int numberForNone) {
        Kit kit = Check.kit(ALL_THREADS);
        for (int d = 0; d < device; d++) {
            kit.device(8, 0);
        }
        Check.due("device", kit.device(kind, NS[kind]), device);
        int[] steps = PLAYS[kind];
        for (int i = 0; i < steps.length; i += FIELDS) {
            int thread = cast[steps[i]];
            int had = kit.tell(thread, 0);
            boolean isNumbered = (NUMBERED[kind] >> steps[i + 1] & 1) == 1;
            kit.step(thread, device, steps[i + 1], isNumbered ? steps[i + 2] : numberForNone, 0);
            int beat = i / FIELDS + 1;
            Check.due("run", kit.run(beat), beat);
            String what = "kind " + kind + ", device " + device + ", step " + i / FIELDS + " by " + thread;
            Check.ended(kit, what, thread, had, steps[i + 3], steps[i + 4], beat);
        }
        return told(kit, device, cast);
    }

    private static String told(Kit kit, int device, int[] cast) {
        StringBuilder text = new StringBuilder();
        for (int role = 0; role < ROLES; role++) {
            for (int i = 0; i < kit.tell(cast[role], 0); i++) {
                text.append(role).append(": ");
                for (int what = 0; what < 4; what++) {
                    text.append(kit.outcome(cast[role], i, what)).append(' ');
                }
            }
        }
        text.append("state ").append(kit.state(device, 1)).append(' ').append(kit.state(device, 3)).append(", line");
        for (int i = 0; kit.waiting(device, i) != MeetingKit.NONE; i++) {
            text.append(' ').append(roleOf(kit.waiting(device, i), cast));
        }
        text.append(", passed");
        for (int i = 0; kit.passed(device, i) != MeetingKit.NONE; i++) {
            text.append(' ').append(roleOf(kit.passed(device, i), cast));
        }
        return text.toString();
    }

    private static int roleOf(int thread, int[] cast) {
        for (int role = 0; role < ROLES; role++) {
            if (cast[role] == thread) {
                return role;
            }
        }
        return MeetingKit.NONE;
    }
}
