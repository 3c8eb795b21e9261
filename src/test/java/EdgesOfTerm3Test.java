import java.util.function.ToIntFunction;

/** The edges of term 3: how far run goes, who is stuck, and that a refused call changes nothing. */
public final class EdgesOfTerm3Test {
    private static final int NONE = MeetingKit.NONE;

    public static void main(String[] args) {
        upToABeat();
        nothingFromTheFirst();
        noStepThatCouldBegin();
        noStepBehindOneThatWaits();
        noPatience();
        noPatienceOfOneThatWaitsNoMore();
        noInterruptForALaterBeat();
        noClosingForALaterBeat();
        stuckOnlyIfSomeWait();
        addedBetweenRuns();
        severalRefusals();
        Check.end("edges of term 3");
    }

    /** "run() goes beat by beat up to a beat": that one is played, the next one not. */
    private static void upToABeat() {
        Kit kit = Check.kit(1, 7, 0);
        for (int i = 0; i < 20; i++) {
            Check.script(kit, 0, 0, 0, 0);
        }
        for (int beat = 0; beat <= 20; beat += 4) {
            Check.due("run", kit.run(beat), beat);
            Check.due("begun", kit.tell(0, 1), beat);
            Check.due("the same beat again", kit.run(beat), beat);
            Check.due("begun", kit.tell(0, 1), beat);
        }
    }

    /** "or up to one behind which nothing can happen any more": that can be the one reached. */
    private static void nothingFromTheFirst() {
        Check.due("nothing at all", new Kit().run(5000), 0);
        Kit kit = Check.kit(2, 2, 1);
        Check.due("no steps, no plans", kit.run(5000), 0);
        Check.script(kit, 0, 0, 1, 0);
        Check.due("one step", kit.run(5000), 1);
        Check.due("nothing more", kit.run(5000), 1);
    }

    /** "no THREAD has a STEP that it could begin". */
    private static void noStepThatCouldBegin() {
        for (int steps = 1; steps <= 20; steps += 19) {
            Kit kit = Check.kit(2, 10, 0);
            for (int i = 0; i < steps; i++) {
                Check.script(kit, 1, 0, 2, 0);
            }
            Check.due("up to its last step", kit.run(5000), steps);
        }
    }

    /** "a STEP that it could begin": not one behind a step that waits, until that one ends. */
    private static void noStepBehindOneThatWaits() {
        Kit kit = Check.kit(1, 2, 1, 10, 0);
        Check.script(kit, 0, 0, 0, 0, 1, 2, 0);
        Check.due("it waits for ever", kit.run(5000), 1);
        Check.stuck(kit, "though it has a step left", 0);
        Check.due("interrupt", kit.interrupt(0, 4), true);
        Check.due("run", kit.run(5000), 5);
        Check.ended(kit, "begun behind the interrupt", 0, 1, 0, 0, 5, 5);
        Check.stuck(kit, "nobody");
    }

    /** "nobody that WAITS has a patience". */
    private static void noPatience() {
        Kit kit = Check.kit(2, 2, 1);
        kit.step(0, 0, 0, 0, 0);
        kit.step(1, 0, 0, 0, 1000);
        Check.due("one beat short", kit.run(1000), 1000);
        Check.stuck(kit, "it can be over yet");
        Check.due("up to its end", kit.run(5000), 1001);
        Check.stuck(kit, "the one without a patience", 0);
    }

    /** "nobody that WAITS has a patience": of one that was let go it does not count any more. */
    private static void noPatienceOfOneThatWaitsNoMore() {
        Kit kit = Check.kit(2, 2, 1);
        kit.step(0, 0, 0, 0, 1000);
        Check.script(kit, 1, 0, 1, 0);
        Check.due("run", kit.run(5000), 1);
        Check.ended(kit, "let go", 0, 0, 0, 0, 1, 1);
    }

    /** "no interrupt .. is planned for a later beat": even for one without steps. */
    private static void noInterruptForALaterBeat() {
        Kit kit = Check.kit(2, 2, 1);
        Check.script(kit, 0, 0, 0, 0);
        Check.due("interrupt", kit.interrupt(1, 5), true);
        Check.due("one beat short", kit.run(4), 4);
        Check.stuck(kit, "it can happen yet");
        Check.due("up to it", kit.run(5000), 5);
        Check.stuck(kit, "it is for no later beat", 0);
    }

    /** "and no closing is planned for a later beat": even of a device that nobody uses. */
    private static void noClosingForALaterBeat() {
        Kit kit = Check.kit(1, 2, 1, 10, 0);
        Check.script(kit, 0, 0, 0, 0);
        Check.due("close", kit.close(1, 5000), true);
        Check.due("one beat short", kit.run(4999), 4999);
        Check.stuck(kit, "it can happen yet");
        Check.due("up to it", kit.run(5000), 5000);
        Check.stuck(kit, "it is for no later beat", 0);
    }

    /** "If some WAIT then, they are STUCK." */
    private static void stuckOnlyIfSomeWait() {
        Kit kit = Check.kit(3, 2, 1, 10, 0);
        Check.script(kit, 2, 0, 0, 0);
        Check.script(kit, 1, 1, 2, 0);
        Check.due("run", kit.run(5000), 1);
        Check.stuck(kit, "the one that waits", 2);
        Check.script(kit, 1, 0, 1, 0);
        Check.stuck(kit, "a step can be begun");
        Check.due("run", kit.run(5000), 2);
        Check.stuck(kit, "nobody waits");
    }

    /** "Plans, SCRIPTS, THREADS and DEVICES can be added between runs." */
    private static void addedBetweenRuns() {
        Kit kit = Check.kit(1, 2, 1);
        Check.script(kit, 0, 0, 0, 0);
        Check.due("run", kit.run(5000), 1);
        Check.due("a thread", kit.thread(), 1);
        Check.due("a device", kit.device(2, 1), 1);
        Check.script(kit, 1, 1, 0, 0);
        Check.due("run", kit.run(5000), 2);
        Check.stuck(kit, "both wait", 0, 1);
        Check.due("a plan", kit.close(1, 3), true);
        Check.due("a plan", kit.interrupt(0, 4), true);
        Check.script(kit, 1, 0, 1, 0);
        Check.due("run", kit.run(5000), 4);
        Check.ended(kit, "closed", 1, 0, 4, 0, 2, 3);
        Check.ended(kit, "interrupted ahead of the steps", 0, 0, 2, 0, 1, 4);
        Check.ended(kit, "its step", 1, 1, 0, 0, 4, 4);
    }

    /** "Of several refusals the first told counts; a refused call changes nothing." */
    private static void severalRefusals() {
        int[] extremes = {Integer.MIN_VALUE, Integer.MAX_VALUE, -1};
        for (int x : extremes) {
            refused("device", kit -> kit.device(x, x));
            refused("step", kit -> kit.step(x, x, x, x, x));
            refused("run", kit -> kit.run(x));
            refused("tell", kit -> kit.tell(x, x));
            refused("outcome", kit -> kit.outcome(x, x, x));
            refused("state", kit -> kit.state(x, x));
            refused("waiting", kit -> kit.waiting(x, x));
            refused("passed", kit -> kit.passed(x, x));
            refused("stuck", kit -> kit.stuck(x));
            Check.refused("interrupt", Midway::kit, kit -> kit.interrupt(x, x) ? 1 : 0, 0);
            Check.refused("close", Midway::kit, kit -> kit.close(x, x) ? 1 : 0, 0);
        }
    }

    private static void refused(String what, ToIntFunction<Kit> call) {
        Check.refused(what, Midway::kit, call, NONE);
    }
}
