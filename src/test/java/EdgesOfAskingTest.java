import java.util.function.ToIntFunction;

/** The edges of promises 7 to 13: run, tell, outcome, state, waiting, passed, stuck. */
public final class EdgesOfAskingTest {
    private static final int NONE = MeetingKit.NONE;

    public static void main(String[] args) {
        runToLessThanTheOneReached();
        runAboveTheLastBeat();
        runOfAllBeats();
        tellOfNoThread();
        tellOfAnotherWhat();
        tellDeviceOrNone();
        outcomeOfNoThread();
        outcomeOfNoStep();
        outcomeOfAnotherWhat();
        outcomeOfOneNotBegun();
        stateOfNoDevice();
        stateOfAnotherWhat();
        stateWithoutUserOrHolder();
        statePartiesOfThisPhase();
        waitingInNoLine();
        waitingBehindTheLast();
        passedAtNoDevice();
        passedBehindTheLast();
        passedTheFirstThreeHundred();
        passedAheadOfThoseLetGo();
        stuckBehindTheLast();
        stuckWhenSomethingCanHappen();
        stuckAtTheLastBeat();
        Check.end("edges of asking");
    }

    private static void refused(String what, ToIntFunction<Kit> call) {
        Check.refused(what, Midway::kit, call, NONE);
    }

    /** Promise 7: "NONE: that beat is less than the one reached". */
    private static void runToLessThanTheOneReached() {
        int[] others = {Integer.MIN_VALUE, -1, 0, Midway.BEAT - 1};
        for (int until : others) {
            refused("run(" + until + ")", kit -> kit.run(until));
        }
        Check.refused("the one reached", Midway::kit, kit -> kit.run(Midway.BEAT), Midway.BEAT);
        Check.due("the next one", Midway.kit().run(Midway.BEAT + 1), Midway.BEAT + 1);
    }

    /** Promise 7: "or above 5000": even if nothing can happen any more. */
    private static void runAboveTheLastBeat() {
        int[] others = {5001, 5002, Integer.MAX_VALUE};
        for (int until : others) {
            refused("run(" + until + ")", kit -> kit.run(until));
            Check.refused("run(" + until + ") of a new one", Kit::new, kit -> kit.run(until), NONE);
        }
        Check.due("5000", Midway.kit().run(5000), 9);
    }

    /** Promise 7: "up to a beat (at most 5000): which one was reached": the last one is played. */
    private static void runOfAllBeats() {
        Kit kit = Check.kit(2, 2, 1, 10, 0);
        Check.due("interrupt", kit.interrupt(1, 4999), true);
        Check.due("run", kit.run(5000), 4999);
        Check.script(kit, 0, 1, 2, 0, 1, 2, 0);
        Check.due("run", kit.run(5000), 5000);
        Check.ended(kit, "in the last beat", 0, 0, 0, 0, 5000, 5000);
        Check.ended(kit, "no beat is left for it", 0, 1, 8, 0, 0, 0);
        Check.due("run", kit.run(5000), 5000);
        Check.due("less than the one reached", kit.run(4999), NONE);
    }

    /** Promise 8: "NONE if there is none such". */
    private static void tellOfNoThread() {
        int[] others = {Integer.MIN_VALUE, -1, Midway.THREADS, 16, Integer.MAX_VALUE};
        for (int thread : others) {
            for (int w = 0; w < 4; w++) {
                int what = w;
                refused("tell(" + thread + ", " + what + ")", kit -> kit.tell(thread, what));
            }
        }
        Check.due("thread 0", Midway.kit().tell(0, 0), 2);
        Check.due("the last thread", Midway.kit().tell(Midway.THREADS - 1, 0), 0);
    }

    /** Promise 8: "or for another what". */
    private static void tellOfAnotherWhat() {
        int[] others = {Integer.MIN_VALUE, -1, 4, Integer.MAX_VALUE};
        for (int what : others) {
            refused("what " + what, kit -> kit.tell(3, what));
        }
        Check.due("what 0", Midway.kit().tell(2, 0), 5);
        Check.due("what 1", Midway.kit().tell(2, 1), 3);
        Check.due("what 2", Midway.kit().tell(1, 2), 1);
        Check.due("what 3", Midway.kit().tell(3, 3), 1);
    }

    /** Promise 8: "2: the DEVICE at which it WAITS (NONE), 3: 1 if an interrupt is kept for it, else 0". */
    private static void tellDeviceOrNone() {
        Kit kit = Midway.kit();
        Check.due("device 0", kit.tell(0, 2), 0);
        Check.due("it waits nowhere", kit.tell(2, 2), NONE);
        Check.due("none is kept", kit.tell(2, 3), 0);
        kit.run(7);
        Check.due("interrupted", kit.tell(0, 2), NONE);
    }

    /** Promise 9: "NONE if there is none such": no such thread. */
    private static void outcomeOfNoThread() {
        int[] others = {Integer.MIN_VALUE, -1, Midway.THREADS, 16, Integer.MAX_VALUE};
        for (int thread : others) {
            refused("thread " + thread, kit -> kit.outcome(thread, 0, 0));
        }
        Check.due("thread 0", Midway.kit().outcome(0, 0, 0), 1);
    }

    /** Promise 9: "NONE if there is none such": no such step. */
    private static void outcomeOfNoStep() {
        int[] others = {Integer.MIN_VALUE, -1, 5, 20, Integer.MAX_VALUE};
        for (int i : others) {
            refused("step " + i, kit -> kit.outcome(2, i, 0));
        }
        refused("a thread without steps", kit -> kit.outcome(3, 0, 0));
        Check.due("the first", Midway.kit().outcome(2, 0, 0), 0);
        Check.due("the last", Midway.kit().outcome(2, 4, 0), 8);
    }

    /** Promise 9: "or for another what". */
    private static void outcomeOfAnotherWhat() {
        int[] others = {Integer.MIN_VALUE, -1, 4, Integer.MAX_VALUE};
        for (int what : others) {
            refused("what " + what, kit -> kit.outcome(2, 1, what));
        }
        Check.ended(Midway.kit(), "each what", 2, 1, 0, 1, 2, 2);
    }

    /** Promise 9: "2: the beat in which it began (0), 3: that in which it ended (0)". */
    private static void outcomeOfOneNotBegun() {
        Check.ended(Midway.kit(), "not begun", 2, 3, 8, 0, 0, 0);
        Check.ended(Midway.kit(), "begun, not ended", 0, 0, 1, 0, 1, 0);
        Check.ended(Midway.kit(), "ended", 2, 2, 0, 0, 3, 3);
    }

    /** Promise 10: "NONE if there is none such". */
    private static void stateOfNoDevice() {
        int[] others = {Integer.MIN_VALUE, -1, Midway.DEVICES, 12, Integer.MAX_VALUE};
        for (int device : others) {
            for (int w = 0; w < 5; w++) {
                int what = w;
                refused("state(" + device + ", " + what + ")", kit -> kit.state(device, what));
            }
        }
        Check.due("device 0", Midway.kit().state(0, 0), 2);
        Check.due("the last device", Midway.kit().state(Midway.DEVICES - 1, 0), 3);
    }

    /** Promise 10: "or for another what": of every kind. */
    private static void stateOfAnotherWhat() {
        int[] others = {Integer.MIN_VALUE, -1, 5, Integer.MAX_VALUE};
        for (int kind = 0; kind < 12; kind++) {
            int n = kind == 3 ? 1 : 0;
            for (int what : others) {
                Check.due("what " + what + " of kind " + kind, Check.kit(1, kind, n).state(0, what), NONE);
            }
            boolean hasNobody = kind == 5 || kind == 11;
            Check.state(Check.kit(1, kind, n), "kind " + kind, 0, kind, 0, 0, 0, hasNobody ? NONE : 0);
        }
    }

    /** Promise 10: "the LOCK's user (NONE)", "the MONITOR's holder (NONE)": thread 0 is somebody. */
    private static void stateWithoutUserOrHolder() {
        Kit kit = Check.kit(1, 5, 0, 11, 0);
        Check.script(kit, 0, 0, 1, 0, 1, 0, 0, 0, 2, 0, 1, 1, 0);
        kit.run(2);
        Check.state(kit, "used", 0, 5, 0, 0, 0, 0);
        Check.state(kit, "held", 1, 11, 0, 0, 1, 0);
        kit.run(4);
        Check.state(kit, "nobody uses it", 0, 5, 0, 0, 0, NONE);
        Check.state(kit, "nobody holds it", 1, 11, 0, 0, 0, NONE);
    }

    /** Promise 10: "the PHASER's parties (without those from the next phase on)". */
    private static void statePartiesOfThisPhase() {
        Kit kit = Check.kit(3, 9, 0);
        Check.script(kit, 0, 0, 0, 0, 0, 1, 0);
        Check.script(kit, 1, 0, 0, 0, 0, 9, 0, 0, 9, 0, 0, 1, 0);
        Check.script(kit, 2, 0, 9, 0, 0, 9, 0, 0, 0, 0);
        kit.run(3);
        Check.state(kit, "one is from the next phase on", 0, 9, 1, 0, 0, 2);
        kit.run(4);
        Check.state(kit, "the next phase", 0, 9, 0, 0, 1, 3);
    }

    /** Promise 11: "NONE if there is none such": no such device. */
    private static void waitingInNoLine() {
        int[] others = {Integer.MIN_VALUE, -1, Midway.DEVICES, 12, Integer.MAX_VALUE};
        for (int device : others) {
            refused("device " + device, kit -> kit.waiting(device, 0));
        }
        Check.due("device 0", Midway.kit().waiting(0, 0), 0);
        Check.due("device 1", Midway.kit().waiting(1, 0), 1);
    }

    /** Promise 11: "The i-th THREAD in a DEVICE's LINE, from 0 on; NONE if there is none such". */
    private static void waitingBehindTheLast() {
        int[] others = {Integer.MIN_VALUE, -1, 1, 16, Integer.MAX_VALUE};
        for (int i : others) {
            refused("waiting(0, " + i + ")", kit -> kit.waiting(0, i));
        }
        refused("an empty line", kit -> kit.waiting(2, 0));
        Kit kit = Check.kit(16, 2, 1);
        for (int t = 0; t < 16; t++) {
            Check.script(kit, t, 0, 0, 0);
        }
        kit.run(1);
        Check.due("the first of a full line", kit.waiting(0, 0), 0);
        Check.due("the last of it", kit.waiting(0, 15), 15);
        Check.due("none behind it", kit.waiting(0, 16), NONE);
    }

    /** Promise 12: "NONE if there is none such": no such device. */
    private static void passedAtNoDevice() {
        int[] others = {Integer.MIN_VALUE, -1, Midway.DEVICES, 12, Integer.MAX_VALUE};
        for (int device : others) {
            refused("device " + device, kit -> kit.passed(device, 0));
        }
        Check.due("device 0", Midway.kit().passed(0, 0), 2);
    }

    /** Promise 12: "The i-th THREAD that PASSED at a DEVICE, from 0 on; .. NONE if there is none such". */
    private static void passedBehindTheLast() {
        int[] others = {Integer.MIN_VALUE, -1, 2, 299, 300, Integer.MAX_VALUE};
        for (int i : others) {
            refused("passed(2, " + i + ")", kit -> kit.passed(2, i));
        }
        refused("nobody passed", kit -> kit.passed(3, 0));
        Check.passed(Midway.kit(), "two steps of thread 2", 2, 2, 2);
    }

    /** Promise 12: "(.. the first 300)": the 300th and the 301st, at one device. */
    private static void passedTheFirstThreeHundred() {
        Kit kit = Check.kit(16, 10, 0, 10, 0);
        for (int i = 0; i < 19; i++) {
            for (int t = 0; t < 16; t++) {
                kit.step(t, 0, 2, 0, 0);
            }
        }
        Check.script(kit, 15, 1, 2, 0);
        kit.run(18);
        Check.due("288 passed", kit.passed(0, 287), 15);
        Check.due("not yet", kit.passed(0, 288), NONE);
        kit.run(19);
        Check.due("the 289th", kit.passed(0, 288), 0);
        Check.due("the 300th", kit.passed(0, 299), 11);
        Check.due("the 301st", kit.passed(0, 300), NONE);
        Check.due("the 304th", kit.passed(0, 303), NONE);
        Check.ended(kit, "though it passed", 12, 18, 0, 0, 19, 19);
        kit.run(20);
        Check.due("another device's first", kit.passed(1, 0), 15);
    }

    /** Promise 12: "(the one that let others go ahead of them)": the last thread is ahead of the first. */
    private static void passedAheadOfThoseLetGo() {
        Kit kit = Check.kit(16, 10, 0);
        Check.script(kit, 0, 0, 0, 0, 0, 2, 0);
        Check.script(kit, 15, 0, 9, 0, 0, 1, 0);
        kit.run(9);
        Check.passed(kit, "in order", 0, 0, 15, 0);
    }

    /** Promise 13: "The i-th THREAD, by number, that is STUCK now; NONE if there is none such". */
    private static void stuckBehindTheLast() {
        Kit kit = Check.kit(16, 2, 1, 10, 0);
        Check.script(kit, 0, 1, 2, 0, 0, 0, 0);
        Check.script(kit, 15, 0, 0, 0);
        Check.due("run", kit.run(9), 2);
        Check.line(kit, "the last thread is the first in line", 0, 15, 0);
        Check.stuck(kit, "by number", 0, 15);
        int[] others = {Integer.MIN_VALUE, -1, 2, 15, 16, Integer.MAX_VALUE};
        for (int i : others) {
            Check.due("stuck(" + i + ")", kit.stuck(i), NONE);
        }
    }

    /** Promise 13: "or something can happen yet". */
    private static void stuckWhenSomethingCanHappen() {
        Kit kit = Midway.kit();
        Check.stuck(kit, "a step, a patience, an interrupt, a closing");
        kit.run(6);
        Check.stuck(kit, "a patience, an interrupt, a closing");
        kit.run(8);
        Check.stuck(kit, "a patience");
        Check.due("run", kit.run(5000), 9);
        Check.stuck(kit, "the one that waits at the barrier", 2);
        kit.interrupt(3, 10);
        Check.stuck(kit, "an interrupt of another one");
    }

    /** Promise 13: "something can happen yet": though no beat is left for it. */
    private static void stuckAtTheLastBeat() {
        Kit kit = Check.kit(2, 2, 1);
        Check.script(kit, 0, 0, 0, 0);
        kit.interrupt(1, 5000);
        Check.due("run", kit.run(5000), 5000);
        Check.stuck(kit, "nothing can happen", 0);
        Check.script(kit, 1, 0, 0, 0);
        Check.stuck(kit, "a step could be begun");
        Check.due("run", kit.run(5000), 5000);
        Check.ended(kit, "in no beat that is left", 1, 0, 8, 0, 0, 0);
    }
}
