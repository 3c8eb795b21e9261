/** Promise 9: outcome answers a step's outcome, value, and the beats in which it began and ended. */
public final class Promise09OutcomeTest {
    public static void main(String[] args) {
        allOutcomes();
        valueOfOneThatWaits();
        wrongInputs();
        Check.end("promise 9");
    }

    private static void allOutcomes() {
        Kit kit = Check.kit(4, 0, 3, 2, 1, 3, 2, 2, 1);
        Check.script(kit, 0, 0, 0, 1, 0, 0, 0, 0, 2, 9, 1, 0, 0);
        kit.step(1, 1, 0, 0, 2);
        Check.script(kit, 1, 0, 1, 2);
        Check.script(kit, 2, 2, 0, 0, 2, 0, 0, 3, 0, 0);
        Check.script(kit, 3, 3, 0, 0, 0, 0, 50, 0, 0, 1);
        kit.interrupt(2, 3);
        kit.close(3, 6);
        Check.ended(kit, "ahead of all", 0, 0, 8, 0, 0, 0);
        kit.run(6);
        Check.ended(kit, "passed", 0, 0, 0, 2, 1, 1);
        Check.ended(kit, "misuse", 0, 1, 6, 0, 2, 2);
        Check.ended(kit, "not now", 0, 2, 7, 0, 3, 3);
        Check.ended(kit, "waits", 0, 3, 1, 0, 4, 0);
        Check.ended(kit, "patience", 1, 0, 3, 0, 1, 3);
        Check.ended(kit, "give", 1, 1, 0, 4, 4, 4);
        Check.ended(kit, "interrupted", 2, 0, 2, 0, 1, 3);
        Check.ended(kit, "broken", 2, 1, 5, 0, 4, 4);
        Check.ended(kit, "closed in its line", 2, 2, 4, 0, 5, 6);
        Check.ended(kit, "closed in its line", 3, 0, 4, 0, 1, 6);
        Check.ended(kit, "not begun", 3, 1, 8, 0, 0, 0);
        kit.run(7);
        Check.ended(kit, "waits", 3, 1, 1, 0, 7, 0);
        Check.ended(kit, "not begun", 3, 2, 8, 0, 0, 0);
    }

    private static void valueOfOneThatWaits() {
        Kit kit = Check.kit(3, 3, 3);
        Check.script(kit, 0, 0, 0, 0);
        Check.script(kit, 1, 0, 0, 0);
        kit.run(1);
        Check.ended(kit, "0 while it waits", 1, 0, 1, 0, 1, 0);
        Check.script(kit, 2, 0, 0, 0);
        kit.run(2);
        Check.ended(kit, "its own when it passed", 1, 0, 0, 1, 1, 2);
        Check.script(kit, 0, 0, 0, 0);
        Check.script(kit, 1, 0, 0, 0);
        kit.interrupt(0, 5);
        kit.run(9);
        Check.ended(kit, "interrupted", 0, 1, 2, 0, 3, 5);
        Check.ended(kit, "0 when it is broken", 1, 1, 5, 0, 3, 5);
    }

    private static void wrongInputs() {
        Kit kit = Check.kit(2, 0, 3);
        Check.script(kit, 0, 0, 0, 1);
        int[] wrong = {Integer.MIN_VALUE, -1, 4, Integer.MAX_VALUE};
        for (int w : wrong) {
            Check.due("what " + w, kit.outcome(0, 0, w), MeetingKit.NONE);
            Check.due("step " + w, kit.outcome(0, w, 0), MeetingKit.NONE);
            Check.due("thread " + w, kit.outcome(w, 0, 0), MeetingKit.NONE);
        }
        Check.due("step 1", kit.outcome(0, 1, 0), MeetingKit.NONE);
        Check.due("no steps at all", kit.outcome(1, 0, 0), MeetingKit.NONE);
        Check.due("thread 2", kit.outcome(2, 0, 0), MeetingKit.NONE);
    }
}
