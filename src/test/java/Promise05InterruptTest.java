/** Promise 5: interrupt plans interrupts; what they do to one that waits, and to one that does not. */
public final class Promise05InterruptTest {
    public static void main(String[] args) {
        refusals();
        twoHundred();
        oneThatWaits();
        keptForTheNextWait();
        keptByThoseThatDoNotWait();
        onlyOneIsKept();
        aheadOfClosingAndPatience();
        byThreadsWhateverTheOrderOfPlanning();
        Check.end("promise 5");
    }

    private static void refusals() {
        Kit kit = Check.kit(2, 2, 1);
        Check.due("thread -1", kit.interrupt(-1, 1), false);
        Check.due("thread 2", kit.interrupt(2, 1), false);
        Check.due("beat 0", kit.interrupt(0, 0), false);
        Check.due("beat -1", kit.interrupt(0, -1), false);
        Check.due("beat 5001", kit.interrupt(0, 5001), false);
        Check.due("most int", kit.interrupt(0, Integer.MAX_VALUE), false);
        Check.due("least ints", kit.interrupt(Integer.MIN_VALUE, Integer.MIN_VALUE), false);
        Check.due("beat 1", kit.interrupt(0, 1), true);
        Check.due("again", kit.interrupt(0, 1), false);
        Check.due("another thread", kit.interrupt(1, 1), true);
        Check.due("beat 5000", kit.interrupt(0, 5000), true);
        Check.due("again", kit.interrupt(0, 5000), false);
        Check.due("run", kit.run(3), 3);
        Check.due("the one reached", kit.interrupt(0, 3), false);
        Check.due("the next one", kit.interrupt(0, 4), true);
        Check.due("up to the last plan", kit.run(5000), 5000);
        Check.due("nothing is later", kit.interrupt(0, 5000), false);
    }

    private static void twoHundred() {
        Kit kit = Check.kit(1, 2, 1, 2, 1);
        for (int i = 0; i < 199; i++) {
            Check.due("plan", kit.interrupt(0, 300 - i), true);
        }
        Check.due("a refused one does not count", kit.interrupt(0, 300), false);
        Check.due("a closing counts", kit.close(0, 7), true);
        Check.due("200 were planned", kit.interrupt(0, 301), false);
        Check.due("200 were planned", kit.close(1, 7), false);
        Check.due("run", kit.run(290), 290);
        Check.due("those that are done count too", kit.interrupt(0, 301), false);
        Check.due("those that are done count too", kit.close(1, 301), false);
        Check.due("run", kit.run(5000), 300);
    }

    private static void oneThatWaits() {
        Kit kit = Check.kit(1, 2, 1);
        Check.script(kit, 0, 0, 0, 0, 0, 1, 0);
        kit.interrupt(0, 4);
        Check.due("run", kit.run(4), 4);
        Check.ended(kit, "interrupted", 0, 0, 2, 0, 1, 4);
        Check.ended(kit, "let go in this beat", 0, 1, 8, 0, 0, 0);
        Check.due("none is kept", kit.tell(0, 3), 0);
        Check.due("run", kit.run(9), 5);
        Check.ended(kit, "in the next beat", 0, 1, 0, 0, 5, 5);
    }

    private static void keptForTheNextWait() {
        Kit kit = Check.kit(1, 2, 1, 10, 0);
        Check.script(kit, 0, 1, 2, 0, 0, 0, 0, 0, 0, 0);
        kit.interrupt(0, 1);
        Check.due("run", kit.run(1), 1);
        Check.ended(kit, "does not wait", 0, 0, 0, 0, 1, 1);
        Check.due("kept", kit.tell(0, 3), 1);
        Check.due("run", kit.run(2), 2);
        Check.ended(kit, "would wait", 0, 1, 2, 0, 2, 2);
        Check.due("used up", kit.tell(0, 3), 0);
        Check.due("waits nowhere", kit.tell(0, 2), MeetingKit.NONE);
        Check.line(kit, "no longer in line", 0);
        Check.due("run", kit.run(9), 3);
        Check.ended(kit, "the next one waits", 0, 2, 1, 0, 3, 0);
    }

    private static void keptByThoseThatDoNotWait() {
        Kit kit = Check.kit(1, 0, 0, 2, 1);
        Check.script(kit, 0, 0, 2, 1, 0, 0, 0, 1, 0, 0);
        kit.interrupt(0, 1);
        kit.close(1, 3);
        Check.due("run", kit.run(9), 3);
        Check.ended(kit, "try", 0, 0, 7, 0, 1, 1);
        Check.ended(kit, "misuse", 0, 1, 6, 0, 2, 2);
        Check.ended(kit, "closed", 0, 2, 4, 0, 3, 3);
        Check.due("kept all the same", kit.tell(0, 3), 1);
    }

    private static void onlyOneIsKept() {
        Kit kit = Check.kit(1, 2, 1);
        kit.interrupt(0, 2);
        kit.interrupt(0, 3);
        Check.due("run", kit.run(9), 3);
        Check.due("one", kit.tell(0, 3), 1);
        Check.script(kit, 0, 0, 0, 0, 0, 0, 0);
        Check.due("run", kit.run(9), 5);
        Check.ended(kit, "the first", 0, 0, 2, 0, 4, 4);
        Check.ended(kit, "the second", 0, 1, 1, 0, 5, 0);
    }

    private static void aheadOfClosingAndPatience() {
        Kit kit = Check.kit(3, 2, 1);
        kit.step(0, 0, 0, 0, 2);
        kit.step(1, 0, 0, 0, 2);
        kit.step(2, 0, 0, 0, 1);
        kit.interrupt(0, 3);
        kit.close(0, 3);
        Check.due("run", kit.run(9), 3);
        Check.ended(kit, "interrupts first", 0, 0, 2, 0, 1, 3);
        Check.ended(kit, "then closings", 1, 0, 4, 0, 1, 3);
        Check.ended(kit, "patience was over", 2, 0, 3, 0, 1, 2);
    }

    private static void byThreadsWhateverTheOrderOfPlanning() {
        Kit kit = Check.kit(2, 3, 3);
        Check.script(kit, 0, 0, 0, 0);
        Check.script(kit, 1, 0, 0, 0);
        kit.interrupt(1, 5);
        kit.interrupt(0, 9);
        kit.interrupt(0, 5);
        Check.due("run", kit.run(5), 5);
        Check.ended(kit, "the first is interrupted", 0, 0, 2, 0, 1, 5);
        Check.ended(kit, "the second finds it broken", 1, 0, 5, 0, 1, 5);
        Check.due("and keeps its interrupt", kit.tell(1, 3), 1);
        Check.due("the first has none yet", kit.tell(0, 3), 0);
        Check.due("run", kit.run(5000), 9);
        Check.due("then it has", kit.tell(0, 3), 1);
    }
}
