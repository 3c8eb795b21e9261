/** Kind 10: a pause. */
public final class Kind10PauseTest {
    public static void main(String[] args) {
        Kit kit = Check.kit(3, 10, 0);
        Check.script(kit, 0, 0, 2, 0, 0, 0, 0, 0, 0, 0, 0, 1, 0, 0, 1, 0, 0, 3, 0);
        Check.script(kit, 1, 0, 9, 0, 0, 2, 0);
        Check.script(kit, 2, 0, 9, 0, 0, 2, 0, 0, 2, 0);
        kit.run(3);
        Check.ended(kit, "not paused", 0, 0, 0, 0, 1, 1);
        Check.ended(kit, "pause", 0, 1, 0, 0, 2, 2);
        Check.ended(kit, "pause again", 0, 2, 0, 0, 3, 3);
        Check.due("paused", kit.state(0, 3), 1);
        Check.line(kit, "two wait", 0, 1, 2);
        kit.run(9);
        Check.ended(kit, "go on", 0, 3, 0, 0, 4, 4);
        Check.ended(kit, "let go", 1, 1, 0, 0, 2, 4);
        Check.ended(kit, "let go", 2, 1, 0, 0, 2, 4);
        Check.ended(kit, "at once", 2, 2, 0, 0, 5, 5);
        Check.ended(kit, "go on again", 0, 4, 0, 0, 5, 5);
        Check.ended(kit, "misuse", 0, 5, 6, 0, 6, 6);
        Check.due("not paused", kit.state(0, 3), 0);
        Check.passed(kit, "in order", 0, 0, 0, 0, 0, 1, 2, 0, 2);
        Check.end("pause");
    }
}
