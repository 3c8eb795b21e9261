/** Kind 6: a hand-over of bounded room. */
public final class Kind06HandOverTest {
    public static void main(String[] args) {
        inOrder();
        putForOneThatWaits();
        withoutRoom();
        allItsRoom();
        Check.end("hand-over");
    }

    private static void inOrder() {
        Kit kit = Check.kit(4, 6, 2);
        Check.script(kit, 0, 0, 0, 1, 0, 0, 2, 0, 0, 3);
        kit.run(9);
        Check.due("two lie there", kit.state(0, 3), 2);
        Check.line(kit, "the third waits", 0, 0);
        Check.script(kit, 1, 0, 0, 4);
        kit.run(9);
        Check.line(kit, "one more waits to put", 0, 0, 1);
        Check.script(kit, 2, 0, 1, 0, 0, 1, 0, 0, 1, 0, 0, 1, 0);
        kit.run(5);
        Check.ended(kit, "the first that lies there", 2, 0, 0, 1, 5, 5);
        Check.ended(kit, "the first that waits puts its own", 0, 2, 0, 0, 3, 5);
        Check.due("two lie there", kit.state(0, 3), 2);
        Check.passed(kit, "the taker is ahead", 0, 0, 0, 2, 0);
        kit.run(9);
        Check.ended(kit, "the second", 2, 1, 0, 2, 6, 6);
        Check.ended(kit, "the third", 2, 2, 0, 3, 7, 7);
        Check.ended(kit, "the fourth", 2, 3, 0, 4, 8, 8);
        Check.due("none lies there", kit.state(0, 3), 0);
    }

    private static void putForOneThatWaits() {
        Kit kit = Check.kit(3, 6, 2);
        Check.script(kit, 0, 0, 1, 0);
        Check.script(kit, 1, 0, 1, 0);
        Check.script(kit, 2, 0, 0, 7, 0, 0, 8, 0, 0, 9, 0, 2, 0);
        kit.run(9);
        Check.ended(kit, "the first", 0, 0, 0, 7, 1, 1);
        Check.ended(kit, "the second", 1, 0, 0, 8, 1, 2);
        Check.ended(kit, "a put has no value", 2, 0, 0, 0, 1, 1);
        Check.ended(kit, "misuse", 2, 3, 6, 0, 4, 4);
        Check.due("one lies there", kit.state(0, 3), 1);
        Check.passed(kit, "the one that put is ahead", 0, 2, 0, 2, 1, 2);
    }

    private static void withoutRoom() {
        Kit kit = Check.kit(3, 6, 0);
        Check.script(kit, 0, 0, 0, 5);
        Check.script(kit, 1, 0, 0, 6);
        Check.script(kit, 2, 0, 1, 0, 0, 1, 0, 0, 1, 0);
        kit.run(1);
        Check.ended(kit, "the first that waits to put", 2, 0, 0, 5, 1, 1);
        Check.ended(kit, "passes", 0, 0, 0, 0, 1, 1);
        Check.line(kit, "the other one waits", 0, 1);
        Check.due("nothing ever lies there", kit.state(0, 3), 0);
        kit.run(9);
        Check.ended(kit, "the other one's", 2, 1, 0, 6, 2, 2);
        Check.ended(kit, "nobody puts", 2, 2, 1, 0, 3, 0);
        Check.passed(kit, "the taker is ahead", 0, 2, 0, 2, 1);
    }

    private static void allItsRoom() {
        Kit kit = Check.kit(2, 6, 8);
        for (int i = 0; i < 9; i++) {
            Check.script(kit, 0, 0, 0, 10 + i);
            Check.script(kit, 1, 0, 2, 0);
        }
        kit.run(50);
        Check.due("eight lie there", kit.state(0, 3), 8);
        Check.line(kit, "the ninth waits", 0, 0);
        for (int i = 0; i < 9; i++) {
            Check.script(kit, 1, 0, 1, 0);
        }
        kit.run(50);
        for (int i = 0; i < 9; i++) {
            Check.ended(kit, "as they were put", 1, 9 + i, 0, 10 + i);
        }
    }
}
