/** The edges of kind 10, a pause. */
public final class EdgesOfPauseTest {
    private static final int PAUSE = 0;
    private static final int GO_ON = 1;
    private static final int PASS = 2;

    public static void main(String[] args) {
        atFirst();
        pausedTwice();
        goOnTwice();
        allAreLetGo();
        Check.end("edges of the pause");
    }

    /** "2 pass: PASSES if it is not paused": so it is at first. */
    private static void atFirst() {
        Kit kit = Check.kit(1, 10, 0);
        Check.state(kit, "not paused", 0, 10, 0, 0, 0, 0);
        Check.script(kit, 0, 0, PASS, 9);
        kit.run(9);
        Check.ended(kit, "at once", 0, 0, 0, 0, 1, 1);
    }

    /** "0 pause": once more changes nothing; "VALUE 0". */
    private static void pausedTwice() {
        Kit kit = Check.kit(2, 10, 0);
        Check.script(kit, 0, 0, PAUSE, 5, 0, PAUSE, 5, 0, GO_ON, 5);
        Check.script(kit, 1, 0, PASS, 5);
        kit.run(1);
        Check.ended(kit, "paused", 1, 0, 1, 0, 1, 0);
        kit.run(2);
        Check.state(kit, "paused", 0, 10, 1, 0, 1, 0);
        kit.run(9);
        Check.ended(kit, "one go-on is enough", 1, 0, 0, 0, 1, 3);
        Check.values(kit, "no values", 0, 0, 0, 0);
        Check.outcomes(kit, "all pass", 0, 0, 0, 0);
    }

    /** "1 go on": when it is not paused, it does not count for a later pause. */
    private static void goOnTwice() {
        Kit kit = Check.kit(2, 10, 0);
        Check.script(kit, 0, 0, GO_ON, 0, 0, GO_ON, 0, 0, PAUSE, 0, 0, PASS, 0);
        kit.run(9);
        Check.outcomes(kit, "paused", 0, 0, 0, 0, 1);
        Check.state(kit, "paused", 0, 10, 1, 0, 1, 0);
    }

    /** "1 go on: all are let go": and those that come then pass. */
    private static void allAreLetGo() {
        Kit kit = Check.kit(16, 10, 0);
        Check.script(kit, 0, 0, PAUSE, 0, 0, GO_ON, 0);
        for (int t = 1; t < 15; t++) {
            Check.script(kit, t, 0, PASS, 0);
        }
        Check.script(kit, 15, 0, 9, 0, 0, PASS, 0);
        kit.run(1);
        Check.due("all wait", kit.state(0, 1), 14);
        kit.run(9);
        Check.passed(kit, "in order", 0, 0, 0, 1, 2, 3, 4, 5, 6, 7, 8, 9, 10, 11, 12, 13, 14, 15);
    }
}
