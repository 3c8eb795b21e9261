/** Kind 3: a barrier that may break. */
public final class Kind03BarrierTest {
    public static void main(String[] args) {
        rounds();
        alone();
        brokenByInterrupt();
        brokenByPatience();
        brokenByAKeptInterrupt();
        anew();
        Check.end("barrier");
    }

    private static void rounds() {
        Kit kit = Check.kit(3, 3, 3);
        for (int t = 0; t < 3; t++) {
            Check.script(kit, t, 0, 0, 0, 0, 0, 0);
        }
        kit.run(9);
        for (int t = 0; t < 3; t++) {
            Check.ended(kit, "first round", t, 0, 0, t, 1, 1);
        }
        Check.ended(kit, "second round", 0, 1, 0, 0, 2, 2);
        Check.ended(kit, "second round", 2, 1, 0, 2, 2, 2);
        Check.passed(kit, "the last one ahead", 0, 2, 0, 1, 2, 0, 1);
    }

    private static void alone() {
        Kit kit = Check.kit(1, 3, 1);
        Check.script(kit, 0, 0, 0, 0, 0, 2, 0, 0, 3, 0);
        kit.run(9);
        Check.ended(kit, "the first is the last", 0, 0, 0, 0, 1, 1);
        Check.ended(kit, "not broken", 0, 1, 0, 0, 2, 2);
        Check.ended(kit, "misuse", 0, 2, 6, 0, 3, 3);
    }

    private static void brokenByInterrupt() {
        Kit kit = Check.kit(3, 3, 3);
        Check.script(kit, 0, 0, 0, 0, 0, 2, 0);
        Check.script(kit, 1, 0, 0, 0, 0, 0, 0);
        kit.interrupt(1, 2);
        kit.run(2);
        Check.ended(kit, "interrupted", 1, 0, 2, 0, 1, 2);
        Check.ended(kit, "broken", 0, 0, 5, 0, 1, 2);
        Check.ended(kit, "let go in this beat", 0, 1, 8, 0, 0, 0);
        Check.due("broken", kit.state(0, 4), 1);
        Check.line(kit, "nobody waits", 0);
        kit.run(3);
        Check.ended(kit, "ask", 0, 1, 0, 1, 3, 3);
        Check.ended(kit, "come", 1, 1, 5, 0, 3, 3);
        Check.passed(kit, "only the one that asked", 0, 0);
    }

    private static void brokenByPatience() {
        Kit kit = Check.kit(2, 3, 3);
        kit.step(0, 0, 0, 0, 2);
        kit.step(1, 0, 0, 0, 2);
        kit.run(9);
        Check.ended(kit, "its patience is over", 0, 0, 3, 0, 1, 3);
        Check.ended(kit, "broken ahead of the end of its own", 1, 0, 5, 0, 1, 3);
    }

    private static void brokenByAKeptInterrupt() {
        Kit kit = Check.kit(2, 3, 3, 10, 0);
        Check.script(kit, 0, 0, 0, 0);
        Check.script(kit, 1, 1, 2, 0, 0, 0, 0);
        kit.interrupt(1, 1);
        kit.run(9);
        Check.ended(kit, "as if it had begun to wait", 1, 1, 2, 0, 2, 2);
        Check.ended(kit, "broken", 0, 0, 5, 0, 1, 2);
        Check.due("broken", kit.state(0, 4), 1);
        Kit last = Check.kit(2, 3, 2);
        Check.script(last, 0, 0, 0, 0);
        Check.script(last, 1, 0, 0, 0);
        last.interrupt(1, 1);
        last.run(9);
        Check.ended(last, "the last one does not wait", 1, 0, 0, 1, 1, 1);
        Check.due("so it keeps its interrupt", last.tell(1, 3), 1);
    }

    private static void anew() {
        Kit kit = Check.kit(3, 3, 3);
        Check.script(kit, 1, 0, 0, 0, 0, 0, 0);
        Check.script(kit, 2, 0, 0, 0);
        kit.run(1);
        Check.script(kit, 0, 0, 1, 0);
        kit.run(2);
        Check.ended(kit, "anew", 0, 0, 0, 0, 2, 2);
        Check.ended(kit, "broken", 1, 0, 5, 0, 1, 2);
        Check.ended(kit, "broken", 2, 0, 5, 0, 1, 2);
        Check.ended(kit, "let go in this beat", 1, 1, 8, 0, 0, 0);
        Check.due("not broken then", kit.state(0, 4), 0);
        Check.passed(kit, "only the one that began anew", 0, 0);
        kit.run(3);
        Check.line(kit, "it waits again", 0, 1);
        kit.interrupt(1, 4);
        Check.script(kit, 0, 0, 8, 0, 0, 1, 0, 0, 2, 0, 0, 0, 0);
        kit.run(4);
        Check.due("broken by an interrupt", kit.state(0, 4), 1);
        kit.run(9);
        Check.ended(kit, "anew", 0, 2, 0, 0, 5, 5);
        Check.ended(kit, "not broken then", 0, 3, 0, 0, 6, 6);
        Check.ended(kit, "it can be waited at again", 0, 4, 1, 0, 7, 0);
    }
}
