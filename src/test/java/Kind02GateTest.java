/** Kind 2: a gate that counts down. */
public final class Kind02GateTest {
    public static void main(String[] args) {
        Kit kit = Check.kit(3, 2, 2);
        Check.script(kit, 0, 0, 0, 0, 0, 0, 0, 0, 2, 0);
        Check.script(kit, 1, 0, 1, 0, 0, 1, 0, 0, 1, 0);
        Check.script(kit, 2, 0, 0, 0);
        kit.run(1);
        Check.ended(kit, "down to 1", 1, 0, 0, 1, 1, 1);
        Check.line(kit, "two wait", 0, 0, 2);
        kit.run(2);
        Check.ended(kit, "down to 0", 1, 1, 0, 0, 2, 2);
        Check.ended(kit, "let go", 0, 0, 0, 0, 1, 2);
        Check.ended(kit, "let go", 2, 0, 0, 0, 1, 2);
        Check.passed(kit, "in order", 0, 1, 1, 0, 2);
        kit.run(9);
        Check.ended(kit, "not below 0", 1, 2, 0, 0, 3, 3);
        Check.ended(kit, "open for good", 0, 1, 0, 0, 3, 3);
        Check.ended(kit, "misuse", 0, 2, 6, 0, 4, 4);
        Check.due("count", kit.state(0, 3), 0);
        Kit open = Check.kit(1, 2, 0);
        Check.script(open, 0, 0, 0, 0);
        open.run(9);
        Check.ended(open, "open from the first", 0, 0, 0, 0, 1, 1);
        Check.end("gate");
    }
}
