/** Kind 7: a line of tickets. */
public final class Kind07TicketsTest {
    public static void main(String[] args) {
        Kit kit = Check.kit(4, 7, 0);
        Check.script(kit, 0, 0, 0, 0, 0, 0, 0, 0, 1, 1, 0, 1, 0);
        Check.script(kit, 1, 0, 1, 1, 0, 1, -1, 0, 1, 1, 0, 3, 0);
        Check.script(kit, 2, 0, 1, 0, 0, 1, 2);
        Check.script(kit, 3, 0, 8, 0, 0, 8, 0, 0, 8, 0, 0, 2, 0, 0, 2, 0, 0, 2, 0);
        kit.run(1);
        Check.ended(kit, "the first ticket", 0, 0, 0, 0, 1, 1);
        Check.ended(kit, "ticket 1 is not drawn yet", 1, 0, 6, 0, 1, 1);
        Check.ended(kit, "ticket 0 is drawn, not called", 2, 0, 1, 0, 1, 0);
        kit.run(3);
        Check.ended(kit, "the second ticket", 0, 1, 0, 1, 2, 2);
        Check.ended(kit, "no such ticket", 1, 1, 6, 0, 2, 2);
        Check.line(kit, "three wait", 0, 2, 0, 1);
        kit.run(4);
        Check.ended(kit, "call", 3, 3, 0, 0, 4, 4);
        Check.ended(kit, "the one that waits for it", 2, 0, 0, 0, 1, 4);
        Check.line(kit, "the others wait", 0, 0, 1);
        Check.due("called", kit.state(0, 4), 1);
        kit.run(5);
        Check.ended(kit, "call", 3, 4, 0, 1, 5, 5);
        Check.ended(kit, "all that wait for it", 0, 2, 0, 0, 3, 5);
        Check.ended(kit, "all that wait for it", 1, 2, 0, 0, 3, 5);
        Check.ended(kit, "ticket 2 is not drawn", 2, 1, 6, 0, 5, 5);
        kit.run(9);
        Check.ended(kit, "none is left", 3, 5, 7, 0, 6, 6);
        Check.ended(kit, "called already", 0, 3, 0, 0, 6, 6);
        Check.ended(kit, "misuse", 1, 3, 6, 0, 6, 6);
        Check.due("drawn", kit.state(0, 3), 2);
        Check.passed(kit, "in order", 0, 0, 0, 3, 2, 3, 0, 1, 0);
        Check.end("tickets");
    }
}
