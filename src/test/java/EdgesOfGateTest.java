/** The edges of kind 2, a gate that counts down. */
public final class EdgesOfGateTest {
    public static void main(String[] args) {
        countOfNone();
        countOfAHundred();
        waitAtOneAndAtNone();
        notBelowNone();
        atNoneAllAreLetGo();
        Check.end("edges of the gate");
    }

    /** "GATE, n 0 .. 100: its count": the least. */
    private static void countOfNone() {
        Kit kit = Check.kit(1, 2, 0);
        Check.due("count", kit.state(0, 3), 0);
        Check.script(kit, 0, 0, 0, 0, 0, 1, 0);
        Check.due("run", kit.run(9), 2);
        Check.ended(kit, "open from the first", 0, 0, 0, 0, 1, 1);
        Check.ended(kit, "down from 0", 0, 1, 0, 0, 2, 2);
    }

    /** "GATE, n 0 .. 100: its count": the most. */
    private static void countOfAHundred() {
        Kit kit = Check.kit(11, 2, 100);
        Check.due("count", kit.state(0, 3), 100);
        Check.script(kit, 0, 0, 0, 0);
        for (int i = 0; i < 10; i++) {
            for (int t = 1; t <= 10; t++) {
                kit.step(t, 0, 1, 0, 0);
            }
        }
        kit.run(9);
        Check.state(kit, "90 downs", 0, 2, 1, 0, 10);
        kit.run(10);
        Check.ended(kit, "the 99th", 9, 9, 0, 1, 10, 10);
        Check.ended(kit, "the hundredth", 10, 9, 0, 0, 10, 10);
        Check.ended(kit, "open at last", 0, 0, 0, 0, 1, 10);
    }

    /** "0 wait: PASSES if the count is 0, else WAITS." */
    private static void waitAtOneAndAtNone() {
        Kit kit = Check.kit(3, 2, 1);
        Check.script(kit, 0, 0, 0, 0);
        Check.due("run", kit.run(1), 1);
        Check.ended(kit, "at 1", 0, 0, 1, 0, 1, 0);
        Check.script(kit, 1, 0, 1, 0);
        Check.script(kit, 2, 0, 0, 0);
        Check.due("run", kit.run(9), 2);
        Check.ended(kit, "at 0", 2, 0, 0, 0, 2, 2);
        Check.passed(kit, "in order", 0, 1, 0, 2);
    }

    /** "1 down: the count is one less, not below 0; VALUE: the count." */
    private static void notBelowNone() {
        Kit kit = Check.kit(1, 2, 2);
        Check.script(kit, 0, 0, 1, 0, 0, 1, 50, 0, 1, 0, 0, 1, 0, 0, 0, 0);
        Check.due("run", kit.run(9), 5);
        Check.values(kit, "one less each time", 0, 1, 0, 0, 0, 0);
        Check.outcomes(kit, "all pass", 0, 0, 0, 0, 0, 0);
        Check.due("count", kit.state(0, 3), 0);
    }

    /** "At 0 all are let go": not one at 1. */
    private static void atNoneAllAreLetGo() {
        Kit kit = Check.kit(16, 2, 2);
        for (int t = 0; t < 15; t++) {
            Check.script(kit, t, 0, 0, 0);
        }
        Check.script(kit, 15, 0, 1, 0, 0, 1, 0);
        Check.due("run", kit.run(1), 1);
        Check.line(kit, "at 1", 0, 0, 1, 2, 3, 4, 5, 6, 7, 8, 9, 10, 11, 12, 13, 14);
        Check.due("run", kit.run(9), 2);
        Check.line(kit, "at 0", 0);
        Check.passed(kit, "all", 0, 15, 15, 0, 1, 2, 3, 4, 5, 6, 7, 8, 9, 10, 11, 12, 13, 14);
    }
}
