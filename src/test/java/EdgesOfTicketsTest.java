/** The edges of kind 7, a line of tickets. */
public final class EdgesOfTicketsTest {
    private static final int DRAW = 0;
    private static final int WAIT = 1;
    private static final int CALL = 2;

    public static void main(String[] args) {
        fromNoneOn();
        asManyAsCanBe();
        waitForOneThatWasNotDrawn();
        waitForOneThatWasCalled();
        callWithoutAny();
        callBehindTheLast();
        thoseThatWaitForIt();
        Check.end("edges of tickets");
    }

    private static Kit drawnAndCalled(int drawn, int called) {
        Kit kit = Check.kit(3, 7, 0);
        for (int i = 0; i < drawn; i++) {
            Check.script(kit, 0, 0, DRAW, 0);
        }
        for (int i = 0; i < called; i++) {
            Check.script(kit, 0, 0, CALL, 0);
        }
        kit.run(drawn + called);
        Check.state(kit, "tickets", 0, 7, 0, 0, drawn, called);
        return kit;
    }

    private static Kit with(Kit kit, int thread, int act, int... numbers) {
        for (int a : numbers) {
            Check.script(kit, thread, 0, act, a);
        }
        kit.run(100);
        return kit;
    }

    /** "0 draw: VALUE: the next ticket, from 0 on." */
    private static void fromNoneOn() {
        Kit kit = drawnAndCalled(3, 0);
        Check.values(kit, "from 0 on", 0, 0, 1, 2);
        Check.outcomes(kit, "all pass", 0, 0, 0, 0);
    }

    /** "the next ticket": as many as all steps of all threads can draw. */
    private static void asManyAsCanBe() {
        Kit kit = Check.kit(16, 7, 0);
        for (int i = 0; i < 20; i++) {
            for (int t = 0; t < 16; t++) {
                kit.step(t, 0, DRAW, 0, 0);
            }
        }
        kit.run(19);
        Check.due("one short of the last beat", kit.state(0, 3), 19 * 16);
        kit.run(20);
        Check.due("drawn", kit.state(0, 3), 320);
        Check.due("the first", kit.outcome(0, 0, 1), 0);
        Check.due("the last", kit.outcome(15, 19, 1), 319);
    }

    /** "1 wait for a: 6 if a was not drawn": the last that was, and the first that was not. */
    private static void waitForOneThatWasNotDrawn() {
        Kit none = with(drawnAndCalled(0, 0), 1, WAIT, 0);
        Check.outcomes(none, "none was drawn", 1, 6);
        Kit kit = with(drawnAndCalled(3, 0), 1, WAIT, -1, -1000000, 3, 4, 1000000, 2);
        Check.outcomes(kit, "3 were drawn", 1, 6, 6, 6, 6, 6, 1);
        Kit called = with(drawnAndCalled(3, 3), 1, WAIT, -1, 3);
        Check.outcomes(called, "and called", 1, 6, 6);
    }

    /** "PASSES if it was called, else WAITS": the last that was, and the first that was not. */
    private static void waitForOneThatWasCalled() {
        Kit kit = with(drawnAndCalled(4, 2), 1, WAIT, 0, 1, 2);
        Check.outcomes(kit, "2 were called", 1, 0, 0, 1);
        Check.values(kit, "no value", 1, 0, 0, 0);
        Kit none = with(drawnAndCalled(1, 0), 1, WAIT, 0);
        Check.outcomes(none, "none was called", 1, 1);
    }

    /** "2 call: the next one that is drawn and not called; VALUE: it; 7 if there is none": none was drawn. */
    private static void callWithoutAny() {
        Kit kit = with(drawnAndCalled(0, 0), 0, CALL, 0, 0);
        Check.outcomes(kit, "none", 0, 7, 7);
        Check.state(kit, "none", 0, 7, 0, 0, 0, 0);
        with(kit, 0, DRAW, 0);
        Check.state(kit, "the first that is drawn was not called", 0, 7, 0, 0, 1, 0);
    }

    /** "7 if there is none": all were called. */
    private static void callBehindTheLast() {
        Kit kit = with(drawnAndCalled(2, 1), 1, CALL, 0, 0, 0);
        Check.ended(kit, "the last", 1, 0, 0, 1, 4, 4);
        Check.outcomes(kit, "none is left", 1, 0, 7, 7);
        Check.state(kit, "as it was", 0, 7, 0, 0, 2, 2);
        with(kit, 1, DRAW, 0);
        with(kit, 1, CALL, 0);
        Check.ended(kit, "one more", 1, 4, 0, 2, 8, 8);
    }

    /** "Those that WAIT for it are let go": all of them, and those for the next one not. */
    private static void thoseThatWaitForIt() {
        Kit kit = Check.kit(5, 7, 0);
        Check.script(kit, 0, 0, DRAW, 0, 0, DRAW, 0, 0, 9, 0, 0, CALL, 0, 0, CALL, 0);
        Check.script(kit, 1, 0, 9, 0, 0, WAIT, 1);
        Check.script(kit, 2, 0, 9, 0, 0, WAIT, 0);
        Check.script(kit, 3, 0, 9, 0, 0, WAIT, 1);
        Check.script(kit, 4, 0, 9, 0, 0, WAIT, 0);
        kit.run(3);
        Check.line(kit, "all wait", 0, 1, 2, 3, 4);
        kit.run(4);
        Check.line(kit, "0 is called", 0, 1, 3);
        kit.run(5);
        Check.line(kit, "1 is called", 0);
        Check.passed(kit, "in order", 0, 0, 0, 0, 2, 4, 0, 1, 3);
    }
}
