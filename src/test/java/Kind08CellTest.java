/** Kind 8: a cell set once. */
public final class Kind08CellTest {
    public static void main(String[] args) {
        Kit kit = Check.kit(3, 8, 0);
        Check.script(kit, 0, 0, 1, 0, 0, 1, 0, 0, 2, 0);
        Check.script(kit, 1, 0, 1, 0);
        Check.script(kit, 2, 0, 0, -3, 0, 0, -3, 0, 0, 4);
        kit.run(9);
        Check.ended(kit, "what was set", 0, 0, 0, -3, 1, 1);
        Check.ended(kit, "what was set", 1, 0, 0, -3, 1, 1);
        Check.ended(kit, "set has no value", 2, 0, 0, 0, 1, 1);
        Check.ended(kit, "at once", 0, 1, 0, -3, 2, 2);
        Check.ended(kit, "it was set", 2, 1, 6, 0, 2, 2);
        Check.ended(kit, "it was set", 2, 2, 6, 0, 3, 3);
        Check.ended(kit, "misuse", 0, 2, 6, 0, 3, 3);
        Check.due("what the cell has", kit.state(0, 4), -3);
        Check.passed(kit, "in order", 0, 2, 0, 1, 0);
        Check.end("cell");
    }
}
