/** Kinds 0 and 1: permits unfair and fair. */
public final class Kind00PermitsTest {
    public static void main(String[] args) {
        bounds(0);
        bounds(1);
        atMostAThousand(0);
        atMostAThousand(1);
        unfair();
        fair();
        goingOutOfTheLine();
        Check.end("permits");
    }

    private static void bounds(int kind) {
        Kit kit = Check.kit(1, kind, 100);
        Check.script(kit, 0, 0, 0, 0, 0, 0, 101, 0, 1, 0, 0, 1, 101, 0, 2, 0, 0, 2, 101, 0, 3, 1, 0, 0, -1);
        Check.script(kit, 0, 0, 0, 100, 0, 2, 1, 0, 1, 1, 0, 2, 1, 0, 1, 100, 0, 2, 99, 0, 0, 1);
        kit.run(99);
        for (int i = 0; i < 8; i++) {
            Check.ended(kit, "misuse", 0, i, 6, 0, i + 1, i + 1);
        }
        Check.ended(kit, "take all", 0, 8, 0, 0, 9, 9);
        Check.ended(kit, "try", 0, 9, 7, 0, 10, 10);
        Check.ended(kit, "give", 0, 10, 0, 1, 11, 11);
        Check.ended(kit, "try", 0, 11, 0, 0, 12, 12);
        Check.ended(kit, "give a hundred", 0, 12, 0, 100, 13, 13);
        Check.ended(kit, "try", 0, 13, 0, 1, 14, 14);
        Check.ended(kit, "take the last", 0, 14, 0, 0, 15, 15);
    }

    private static void atMostAThousand(int kind) {
        Kit kit = Check.kit(1, kind, 100);
        for (int i = 0; i < 8; i++) {
            Check.script(kit, 0, 0, 1, 100);
        }
        Check.script(kit, 0, 0, 1, 99, 0, 1, 2, 0, 1, 1, 0, 1, 1);
        kit.run(99);
        Check.ended(kit, "999", 0, 8, 0, 999, 9, 9);
        Check.ended(kit, "1001 are too many", 0, 9, 6, 0, 10, 10);
        Check.ended(kit, "1000", 0, 10, 0, 1000, 11, 11);
        Check.ended(kit, "one more is too many", 0, 11, 6, 0, 12, 12);
        Check.due("permits", kit.state(0, 3), 1000);
    }

    private static Kit crowd(int kind) {
        Kit kit = Check.kit(6, kind, 1, 10, 0);
        Check.script(kit, 0, 0, 0, 3);
        Check.script(kit, 1, 0, 0, 2);
        Check.script(kit, 2, 0, 0, 1);
        Check.script(kit, 3, 0, 2, 1);
        Check.script(kit, 4, 1, 2, 0, 0, 1, 2);
        Check.script(kit, 5, 1, 2, 0, 1, 2, 0, 0, 1, 4);
        kit.run(1);
        return kit;
    }

    private static void unfair() {
        Kit kit = crowd(0);
        Check.ended(kit, "goes ahead of those that wait", 2, 0, 0, 0, 1, 1);
        Check.ended(kit, "none is left", 3, 0, 7, 0, 1, 1);
        Check.line(kit, "two wait", 0, 0, 1);
        kit.run(2);
        Check.ended(kit, "right behind its own act", 4, 1, 0, 2, 2, 2);
        Check.ended(kit, "not enough for the first", 0, 0, 1, 0, 1, 0);
        Check.ended(kit, "but for the second", 1, 0, 0, 0, 1, 2);
        kit.run(3);
        Check.ended(kit, "give 4", 5, 2, 0, 4, 3, 3);
        Check.ended(kit, "enough at last", 0, 0, 0, 1, 1, 3);
        Check.passed(kit, "in order", 0, 2, 4, 1, 5, 0);
    }

    private static void fair() {
        Kit kit = crowd(1);
        Check.ended(kit, "somebody waits", 2, 0, 1, 0, 1, 0);
        Check.ended(kit, "try has none", 3, 0, 7, 0, 1, 1);
        Check.due("though there is one", kit.state(0, 3), 1);
        Check.line(kit, "three wait", 0, 0, 1, 2);
        kit.run(2);
        Check.ended(kit, "give", 4, 1, 0, 3, 2, 2);
        Check.ended(kit, "the first", 0, 0, 0, 0, 1, 2);
        Check.line(kit, "two wait", 0, 1, 2);
        kit.run(3);
        Check.ended(kit, "give", 5, 2, 0, 4, 3, 3);
        Check.ended(kit, "the second", 1, 0, 0, 2, 1, 3);
        Check.ended(kit, "the third", 2, 0, 0, 1, 1, 3);
        Check.passed(kit, "in order", 0, 4, 0, 5, 1, 2);
    }

    private static void goingOutOfTheLine() {
        Kit kit = Check.kit(4, 1, 3);
        kit.step(0, 0, 0, 9, 2);
        kit.step(1, 0, 0, 1, 2);
        Check.script(kit, 2, 0, 0, 5);
        Check.script(kit, 3, 0, 0, 2);
        kit.interrupt(2, 4);
        kit.run(3);
        Check.ended(kit, "its patience is over", 0, 0, 3, 0, 1, 3);
        Check.ended(kit, "so the next one has its permit ahead of the end of its own", 1, 0, 0, 2, 1, 3);
        Check.line(kit, "the others wait", 0, 2, 3);
        kit.run(4);
        Check.ended(kit, "interrupted", 2, 0, 2, 0, 1, 4);
        Check.ended(kit, "so the last one is let go", 3, 0, 0, 0, 1, 4);
    }
}
