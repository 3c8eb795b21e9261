/** Kind 11: a monitor with lines. */
public final class Kind11MonitorTest {
    public static void main(String[] args) {
        misuse();
        enterAndLeave();
        wakeOne();
        wakeAll();
        givingUp();
        keptInterrupt();
        Check.end("monitor");
    }

    private static void misuse() {
        Kit kit = Check.kit(1, 11, 0);
        Check.script(kit, 0, 0, 1, 0, 0, 2, 0, 0, 3, 0, 0, 4, 0, 0, 5, 0, 0, 0, 0, 0, 0, 0);
        Check.script(kit, 0, 0, 2, 4, 0, 2, -1, 0, 3, 4, 0, 3, -1, 0, 4, 4, 0, 4, -1, 0, 5, 0);
        Check.script(kit, 0, 0, 3, 3, 0, 4, 0, 0, 1, 0, 0, 1, 0);
        kit.run(99);
        int[] want = {6, 6, 6, 6, 6, 0, 6, 6, 6, 6, 6, 6, 6, 6, 0, 0, 0, 6};
        for (int i = 0; i < want.length; i++) {
            Check.ended(kit, "step " + i, 0, i, want[i], 0, i + 1, i + 1);
        }
        Check.due("nobody holds it", kit.state(0, 4), MeetingKit.NONE);
    }

    private static void enterAndLeave() {
        Kit kit = Check.kit(3, 11, 0);
        Check.script(kit, 0, 0, 0, 0, 0, 1, 0);
        Check.script(kit, 1, 0, 0, 0, 0, 1, 0);
        Check.script(kit, 2, 0, 0, 0);
        kit.run(1);
        Check.due("the first holds it", kit.state(0, 4), 0);
        Check.line(kit, "the others wait", 0, 1, 2);
        kit.run(2);
        Check.ended(kit, "the second", 1, 0, 0, 0, 1, 2);
        Check.due("holds it", kit.state(0, 4), 1);
        kit.run(3);
        Check.due("the third holds it", kit.state(0, 4), 2);
        Check.passed(kit, "in order", 0, 0, 0, 1, 1, 2);
    }

    /** Threads 0, 1, 2 wait in lines 1, 3, 1; nobody holds the monitor. */
    private static Kit three(int patience) {
        Kit kit = Check.kit(5, 11, 0);
        int[] lines = {1, 3, 1};
        for (int t = 0; t < 3; t++) {
            Check.script(kit, t, 0, 0, 0);
            kit.step(t, 0, 2, lines[t], patience);
        }
        kit.run(4);
        Check.line(kit, "all wait in lines", 0, 0, 1, 2);
        Check.due("nobody holds it", kit.state(0, 3), 0);
        return kit;
    }

    private static void wakeOne() {
        Kit kit = three(0);
        Check.script(kit, 3, 0, 0, 0, 0, 3, 0, 0, 3, 1, 0, 1, 0);
        kit.run(5);
        Check.ended(kit, "those in lines do not wait to enter", 3, 0, 0, 0, 5, 5);
        kit.run(6);
        Check.ended(kit, "nobody is in that line", 3, 1, 0, 0, 6, 6);
        kit.run(7);
        Check.ended(kit, "one is woken", 3, 2, 0, 1, 7, 7);
        Check.line(kit, "it comes to the end", 0, 1, 2, 0);
        Check.ended(kit, "and waits to enter", 0, 1, 1, 0, 2, 0);
        kit.run(8);
        Check.ended(kit, "it holds it again", 0, 1, 0, 0, 2, 8);
        Check.due("holder", kit.state(0, 4), 0);
        Check.line(kit, "the others are in their lines", 0, 1, 2);
    }

    private static void wakeAll() {
        Kit kit = three(0);
        Check.script(kit, 3, 0, 0, 0, 0, 4, 1, 0, 1, 0);
        Check.script(kit, 4, 0, 0, 0);
        kit.run(6);
        Check.ended(kit, "two are woken", 3, 1, 0, 2, 6, 6);
        Check.line(kit, "behind the one that waits to enter", 0, 1, 4, 0, 2);
        kit.run(7);
        Check.due("the first of those that wait to enter", kit.state(0, 4), 4);
        Check.script(kit, 4, 0, 2, 0);
        kit.run(8);
        Check.due("one that waits holds it no more", kit.state(0, 4), 0);
        Check.line(kit, "it is behind the others", 0, 1, 2, 4);
    }

    private static void givingUp() {
        Kit kit = three(20);
        kit.interrupt(1, 5);
        Check.script(kit, 3, 0, 0, 0, 0, 3, 1);
        kit.run(99);
        Check.ended(kit, "interrupted in a line", 1, 1, 2, 0, 3, 5);
        Check.ended(kit, "its patience is over, waiting to enter", 0, 1, 3, 0, 2, 22);
        Check.ended(kit, "its patience is over, in a line", 2, 1, 3, 0, 4, 24);
        Check.due("they do not hold it", kit.state(0, 4), 3);
    }

    private static void keptInterrupt() {
        Kit kit = Check.kit(2, 11, 0);
        Check.script(kit, 0, 0, 0, 0, 0, 2, 0, 0, 1, 0);
        Check.script(kit, 1, 0, 0, 0);
        kit.interrupt(0, 1);
        kit.run(2);
        Check.ended(kit, "as if it had begun to wait", 0, 1, 2, 0, 2, 2);
        Check.ended(kit, "so the next one enters", 1, 0, 0, 0, 1, 2);
        Check.due("holder", kit.state(0, 4), 1);
        kit.run(3);
        Check.ended(kit, "it does not hold it", 0, 2, 6, 0, 3, 3);
    }
}
