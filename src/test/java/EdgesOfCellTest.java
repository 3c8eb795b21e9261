/** The edges of kind 8, a cell set once. */
public final class EdgesOfCellTest {
    public static void main(String[] args) {
        setTwice();
        setToAnything();
        getAheadAndBehind();
        Check.end("edges of the cell");
    }

    /** "0 set a: 6 if it was set": by the same thread or by another, to the same or to another number. */
    private static void setTwice() {
        Kit kit = Check.kit(2, 8, 0);
        Check.script(kit, 0, 0, 0, 5, 0, 0, 5, 0, 0, 6);
        Check.script(kit, 1, 0, 0, 7, 0, 1, 0);
        kit.run(9);
        Check.outcomes(kit, "once only", 0, 0, 6, 6);
        Check.outcomes(kit, "nor by another", 1, 6, 0);
        Check.values(kit, "what was set first", 1, 0, 5);
        Check.state(kit, "what was set first", 0, 8, 0, 0, 1, 5);
        Check.passed(kit, "two", 0, 0, 1);
    }

    /** "set a": any a that a step may have; 0 is set too. */
    private static void setToAnything() {
        int[] numbers = {-1000000, -1, 0, 1000000};
        for (int a : numbers) {
            Kit kit = Check.kit(1, 8, 0);
            Check.script(kit, 0, 0, 0, a, 0, 1, 0, 0, 0, 1);
            kit.run(9);
            Check.ended(kit, "set has no value", 0, 0, 0, 0, 1, 1);
            Check.ended(kit, "get", 0, 1, 0, a, 2, 2);
            Check.ended(kit, "it was set", 0, 2, 6, 0, 3, 3);
            Check.state(kit, "what it has", 0, 8, 0, 0, 1, a);
        }
    }

    /** "1 get: VALUE: what was set; WAITS for it." */
    private static void getAheadAndBehind() {
        Kit kit = Check.kit(4, 8, 0);
        Check.state(kit, "not set", 0, 8, 0, 0, 0, 0);
        Check.script(kit, 0, 0, 1, 0);
        Check.script(kit, 2, 0, 1, 0);
        Check.due("run", kit.run(9), 1);
        Check.line(kit, "both wait", 0, 0, 2);
        Check.script(kit, 1, 0, 0, -8);
        Check.script(kit, 3, 0, 1, 0);
        Check.due("run", kit.run(9), 2);
        Check.ended(kit, "let go", 0, 0, 0, -8, 1, 2);
        Check.ended(kit, "let go", 2, 0, 0, -8, 1, 2);
        Check.ended(kit, "at once", 3, 0, 0, -8, 2, 2);
        Check.passed(kit, "in order", 0, 1, 0, 2, 3);
    }
}
