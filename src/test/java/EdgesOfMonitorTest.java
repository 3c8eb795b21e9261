/** The edges of kind 11, a monitor with lines. */
public final class EdgesOfMonitorTest {
    private static final int NONE = MeetingKit.NONE;
    private static final int ENTER = 0;
    private static final int LEAVE = 1;
    private static final int WAIT = 2;
    private static final int WAKE = 3;
    private static final int WAKE_ALL = 4;

    public static void main(String[] args) {
        enterByTheHolder();
        enterAtOnce();
        enterWhenItIsHeld();
        enterWhileSomeAreInLines();
        leaveByAnother();
        fourLines();
        linesOnlyForTheHolder();
        waitWithNobodyToEnter();
        waitWithOneToEnter();
        wakeInAnEmptyLine();
        wakeTheFirstAlone();
        wakeAllInOrder();
        wakeAllOfFifteen();
        wokenOnesWaitToEnter();
        wokenOnesAheadOfLaterOnes();
        wakeRoundAfterRound();
        theFirstThatWaitsToEnter();
        whoGaveUpDoesNotHoldIt();
        interruptKeptByOneThatEntersAtOnce();
        interruptKeptWhileSomeAreInLines();
        interruptUsedByOneThatWouldWait();
        Check.end("edges of the monitor");
    }

    /** Each of the first threads waits in the line given for it; nobody holds the monitor. */
    private static Kit inLines(int threads, int... lines) {
        Kit kit = Check.kit(threads, 11, 0);
        for (int t = 0; t < lines.length; t++) {
            Check.due("enter", Check.then(kit, t, ENTER, 0), 0);
            Check.due("wait", Check.then(kit, t, WAIT, lines[t]), 1);
        }
        Check.state(kit, "all wait", 0, 11, lines.length, 0, 0, NONE);
        return kit;
    }

    /** "0 enter: 6 if it holds it". */
    private static void enterByTheHolder() {
        Kit kit = Check.kit(1, 11, 0);
        Check.due("enter", Check.then(kit, 0, ENTER, 0), 0);
        Check.due("it holds it", Check.then(kit, 0, ENTER, 0), 6);
        Check.state(kit, "all the same", 0, 11, 0, 0, 1, 0);
        Check.due("leave", Check.then(kit, 0, LEAVE, 0), 0);
        Check.due("enter anew", Check.then(kit, 0, ENTER, 0), 0);
    }

    /** "PASSES and holds it if nobody holds it and nobody WAITS to enter". */
    private static void enterAtOnce() {
        Kit kit = Check.kit(16, 11, 0);
        Check.state(kit, "nobody", 0, 11, 0, 0, 0, NONE);
        Check.due("the last thread", Check.then(kit, 15, ENTER, 0), 0);
        Check.state(kit, "it holds it", 0, 11, 0, 0, 1, 15);
    }

    /** "else WAITS". */
    private static void enterWhenItIsHeld() {
        Kit kit = Check.kit(3, 11, 0);
        Check.due("enter", Check.then(kit, 1, ENTER, 0), 0);
        Check.due("it is held", Check.then(kit, 0, ENTER, 0), 1);
        Check.due("it is held", Check.then(kit, 2, ENTER, 0), 1);
        Check.line(kit, "both wait", 0, 0, 2);
        Check.due("leave", Check.then(kit, 1, LEAVE, 0), 0);
        Check.state(kit, "the first", 0, 11, 1, 0, 1, 0);
    }

    /** "nobody WAITS to enter": those in the lines do not. */
    private static void enterWhileSomeAreInLines() {
        Kit kit = inLines(5, 0, 1, 2, 3);
        Check.due("enter", Check.then(kit, 4, ENTER, 0), 0);
        Check.state(kit, "at once", 0, 11, 4, 0, 1, 4);
    }

    /** "1 leave: 6 if it does not hold it": nobody does, or another one. */
    private static void leaveByAnother() {
        Kit kit = Check.kit(2, 11, 0);
        Check.due("nobody holds it", Check.then(kit, 0, LEAVE, 0), 6);
        Check.due("enter", Check.then(kit, 0, ENTER, 0), 0);
        Check.due("another one holds it", Check.then(kit, 1, LEAVE, 0), 6);
        Check.state(kit, "all the same", 0, 11, 0, 0, 1, 0);
        Check.due("the one that holds it", Check.then(kit, 0, LEAVE, 0), 0);
        Check.due("no more", Check.then(kit, 0, LEAVE, 0), 6);
    }

    /** "2 wait in line a (0 .. 3; else 6 ..)", "3 wake a, 4 wake all of a (6 as for 2)". */
    private static void fourLines() {
        int[] others = {-1000000, -1, 4, 5, 1000000};
        for (int act = WAIT; act <= WAKE_ALL; act++) {
            Kit kit = Check.kit(1, 11, 0);
            Check.due("enter", Check.then(kit, 0, ENTER, 0), 0);
            for (int line : others) {
                Check.due("line " + line, Check.then(kit, 0, act, line), 6);
            }
            Check.state(kit, "it holds it all the same", 0, 11, 0, 0, 1, 0);
            for (int line = 0; line <= 3; line += 3) {
                Kit such = Check.kit(1, 11, 0);
                Check.due("enter", Check.then(such, 0, ENTER, 0), 0);
                Check.due("line " + line, Check.then(such, 0, act, line), act == WAIT ? 1 : 0);
            }
        }
    }

    /** "6 if it does not hold it": whether nobody does or another one. */
    private static void linesOnlyForTheHolder() {
        for (int act = WAIT; act <= WAKE_ALL; act++) {
            Kit kit = inLines(3, 1);
            Check.due("nobody holds it", Check.then(kit, 1, act, 1), 6);
            Check.due("enter", Check.then(kit, 2, ENTER, 0), 0);
            Check.due("another one holds it", Check.then(kit, 1, act, 1), 6);
            Check.due("neither it nor such a line", Check.then(kit, 1, act, 4), 6);
            Check.due("leave", Check.then(kit, 2, LEAVE, 0), 0);
            Check.state(kit, "nobody was woken, nobody waits", 0, 11, 1, 0, 0, NONE);
        }
    }

    /** "it holds it no more and WAITS in that line": and nobody holds it then. */
    private static void waitWithNobodyToEnter() {
        Kit kit = inLines(1, 2);
        Check.due("where it waits", kit.tell(0, 2), 0);
        Check.stuck(kit, "nobody can wake it", 0);
    }

    /** "it holds it no more": the first that waits to enter has it, in the same beat. */
    private static void waitWithOneToEnter() {
        Kit kit = Check.kit(2, 11, 0);
        Check.due("enter", Check.then(kit, 0, ENTER, 0), 0);
        Check.due("it is held", Check.then(kit, 1, ENTER, 0), 1);
        Check.due("wait", Check.then(kit, 0, WAIT, 0), 1);
        Check.ended(kit, "it enters", 1, 0, 0, 0, 2, 3);
        Check.line(kit, "the other one waits", 0, 0);
        Check.due("holder", kit.state(0, 4), 1);
    }

    /** "VALUE: how many": none. */
    private static void wakeInAnEmptyLine() {
        for (int act = WAKE; act <= WAKE_ALL; act++) {
            Kit kit = inLines(3, 1, 1);
            Check.due("enter", Check.then(kit, 2, ENTER, 0), 0);
            for (int line = 0; line <= 3; line++) {
                if (line != 1) {
                    Check.due("wake", Check.then(kit, 2, act, line), 0);
                    Check.due("nobody is there", Check.lastValue(kit, 2), 0);
                }
            }
            Check.due("leave", Check.then(kit, 2, LEAVE, 0), 0);
            Check.state(kit, "all wait", 0, 11, 2, 0, 0, NONE);
        }
    }

    /** "the first of that line ..; VALUE: how many": one of two, then the last, then none. */
    private static void wakeTheFirstAlone() {
        Kit kit = inLines(4, 3, 0, 3);
        Check.due("enter", Check.then(kit, 3, ENTER, 0), 0);
        int[] values = {1, 1, 0};
        for (int want : values) {
            Check.due("wake", Check.then(kit, 3, WAKE, 3), 0);
            Check.due("how many", Check.lastValue(kit, 3), want);
        }
        Check.line(kit, "behind the others", 0, 1, 0, 2);
        Check.due("leave", Check.then(kit, 3, LEAVE, 0), 0);
        Check.state(kit, "the first", 0, 11, 2, 0, 1, 0);
    }

    /** "or all in order, come to the end of the LINE": behind one that waits to enter already. */
    private static void wakeAllInOrder() {
        Kit kit = inLines(6, 2, 1, 2, 2);
        Check.due("enter", Check.then(kit, 4, ENTER, 0), 0);
        Check.due("it is held", Check.then(kit, 5, ENTER, 0), 1);
        Check.due("wake all", Check.then(kit, 4, WAKE_ALL, 2), 0);
        Check.due("how many", Check.lastValue(kit, 4), 3);
        Check.line(kit, "behind the others", 0, 1, 5, 0, 2, 3);
        Check.due("wake all", Check.then(kit, 4, WAKE_ALL, 2), 0);
        Check.due("nobody is in that line any more", Check.lastValue(kit, 4), 0);
        Check.line(kit, "as it was", 0, 1, 5, 0, 2, 3);
    }

    /** "4 wake all of a": as many as can be. */
    private static void wakeAllOfFifteen() {
        Kit kit = inLines(16, 3, 3, 3, 3, 3, 3, 3, 3, 3, 3, 3, 3, 3, 3, 3);
        Check.due("enter", Check.then(kit, 15, ENTER, 0), 0);
        Check.due("wake all", Check.then(kit, 15, WAKE_ALL, 3), 0);
        Check.due("how many", Check.lastValue(kit, 15), 15);
        Check.due("leave", Check.then(kit, 15, LEAVE, 0), 0);
        Check.due("the first", kit.state(0, 4), 0);
        Check.due("the others wait", kit.state(0, 1), 14);
    }

    /** "and WAIT to enter from now on": one that is not woken does not. */
    private static void wokenOnesWaitToEnter() {
        Kit kit = inLines(3, 0, 0);
        Check.due("enter", Check.then(kit, 2, ENTER, 0), 0);
        Check.due("wake", Check.then(kit, 2, WAKE, 0), 0);
        Check.ended(kit, "it still waits", 0, 1, 1, 0, 2, 0);
        Check.due("leave", Check.then(kit, 2, LEAVE, 0), 0);
        Check.ended(kit, "it holds it and passes", 0, 1, 0, 0, 2, 7);
        Check.due("it leaves", Check.then(kit, 0, LEAVE, 0), 0);
        Check.state(kit, "the other one was not woken", 0, 11, 1, 0, 0, NONE);
        Check.stuck(kit, "so it is stuck", 1);
    }

    /** "come to the end of the LINE": behind those that wait there, but ahead of those that come later. */
    private static void wokenOnesAheadOfLaterOnes() {
        Kit kit = inLines(4, 0);
        Check.due("enter", Check.then(kit, 1, ENTER, 0), 0);
        Check.due("it is held", Check.then(kit, 2, ENTER, 0), 1);
        Check.due("wake", Check.then(kit, 1, WAKE, 0), 0);
        Check.due("it is held", Check.then(kit, 3, ENTER, 0), 1);
        Check.line(kit, "between them", 0, 2, 0, 3);
        int[] holders = {1, 2, 0, 3};
        for (int holder : holders) {
            Check.due("holder", kit.state(0, 4), holder);
            Check.due("leave", Check.then(kit, holder, LEAVE, 0), 0);
        }
        Check.passed(kit, "in order", 0, 0, 1, 1, 1, 2, 2, 0, 0, 3, 3);
    }

    /** "3 wake a": two that wait for one another in turn, up to the last step that a script has. */
    private static void wakeRoundAfterRound() {
        Kit kit = Check.kit(2, 11, 0);
        Check.script(kit, 0, 0, ENTER, 0);
        Check.script(kit, 1, 0, ENTER, 0);
        for (int round = 1; round <= 9; round++) {
            Check.script(kit, 0, 0, WAIT, 0, 0, WAKE, 0);
            Check.script(kit, 1, 0, WAKE, 0, 0, WAIT, 0);
        }
        Check.script(kit, 0, 0, LEAVE, 0);
        Check.script(kit, 1, 0, LEAVE, 0);
        Check.due("run", kit.run(100), 39);
        for (int round = 1; round <= 9; round++) {
            int beat = 4 * round;
            Check.ended(kit, "wait", 0, 2 * round - 1, 0, 0, beat - 2, beat);
            Check.ended(kit, "wake", 0, 2 * round, 0, 1, beat + 1, beat + 1);
            Check.ended(kit, "wake", 1, 2 * round - 1, 0, 1, beat - 1, beat - 1);
            Check.ended(kit, "wait", 1, 2 * round, 0, 0, beat, beat + 2);
        }
        Check.state(kit, "nobody", 0, 11, 0, 0, 0, NONE);
    }

    /** "if nobody holds it, the first of those that WAIT to enter": one at a time. */
    private static void theFirstThatWaitsToEnter() {
        Kit kit = inLines(4, 0);
        Check.due("enter", Check.then(kit, 3, ENTER, 0), 0);
        Check.due("it is held", Check.then(kit, 2, ENTER, 0), 1);
        Check.due("it is held", Check.then(kit, 1, ENTER, 0), 1);
        Check.line(kit, "the first in line does not wait to enter", 0, 0, 2, 1);
        Check.due("leave", Check.then(kit, 3, LEAVE, 0), 0);
        Check.line(kit, "one enters", 0, 0, 1);
        Check.due("holder", kit.state(0, 4), 2);
        Check.due("leave", Check.then(kit, 2, LEAVE, 0), 0);
        Check.due("leave", Check.then(kit, 1, LEAVE, 0), 0);
        Check.state(kit, "nobody is left that would", 0, 11, 1, 0, 0, NONE);
    }

    /** "(One that is interrupted, or whose patience is over, in a line or waiting to enter, does not hold it.)" */
    private static void whoGaveUpDoesNotHoldIt() {
        Kit kit = inLines(4, 0);
        kit.interrupt(0, 3);
        Check.due("run", kit.run(100), 3);
        Check.ended(kit, "interrupted in a line", 0, 1, 2, 0, 2, 3);
        Check.state(kit, "nobody", 0, 11, 0, 0, 0, NONE);
        Check.due("it does not hold it", Check.then(kit, 0, LEAVE, 0), 6);
        Check.due("enter", Check.then(kit, 1, ENTER, 0), 0);
        kit.step(2, 0, ENTER, 0, 2);
        Check.due("run", kit.run(100), 8);
        Check.ended(kit, "its patience is over, waiting to enter", 2, 0, 3, 0, 6, 8);
        Check.due("it does not hold it", Check.then(kit, 2, LEAVE, 0), 6);
        kit.step(1, 0, WAIT, 1, 1);
        Check.due("run", kit.run(100), 11);
        Check.ended(kit, "its patience is over, in a line", 1, 1, 3, 0, 10, 11);
        Check.due("it does not hold it", Check.then(kit, 1, LEAVE, 0), 6);
        Check.due("so another one can", Check.then(kit, 3, ENTER, 0), 0);
    }

    /** "PASSES and holds it if nobody holds it": so it would not wait, and an interrupt is still kept for it. */
    private static void interruptKeptByOneThatEntersAtOnce() {
        Kit kit = Check.kit(1, 11, 0);
        kit.interrupt(0, 1);
        int[] all = {ENTER, WAKE, WAKE_ALL, LEAVE};
        for (int act : all) {
            Check.due("act " + act, Check.then(kit, 0, act, 0), 0);
            Check.due("kept", kit.tell(0, 3), 1);
        }
    }

    /** "nobody WAITS to enter": those in the lines do not, so one that enters would not wait. */
    private static void interruptKeptWhileSomeAreInLines() {
        for (int line = 0; line <= 3; line++) {
            Kit kit = inLines(2, line);
            kit.interrupt(1, 3);
            Check.due("enter", Check.then(kit, 1, ENTER, 0), 0);
            Check.due("kept", kit.tell(1, 3), 1);
        }
    }

    /** "else WAITS", "and WAITS in that line": an interrupt that is kept ends that at once. */
    private static void interruptUsedByOneThatWouldWait() {
        Kit kit = Check.kit(2, 11, 0);
        Check.due("enter", Check.then(kit, 0, ENTER, 0), 0);
        kit.interrupt(0, 2);
        kit.interrupt(1, 2);
        Check.due("it is held", Check.then(kit, 1, ENTER, 0), 2);
        Check.state(kit, "as it was", 0, 11, 0, 0, 1, 0);
        Check.due("wait", Check.then(kit, 0, WAIT, 3), 2);
        Check.state(kit, "it holds it no more", 0, 11, 0, 0, 0, NONE);
        Check.due("used", kit.tell(0, 3) + kit.tell(1, 3), 0);
    }
}
