/** Promise 7: run goes beat by beat, in each in the told order, up to a beat or up to the end of all that can happen. */
public final class Promise07RunTest {
    public static void main(String[] args) {
        bounds();
        howFar();
        patience();
        threadsByNumber();
        oneStepABeat();
        letGoInThisBeat();
        goesOnBetweenRuns();
        laterPlansKeepItGoing();
        Check.end("promise 7");
    }

    private static void bounds() {
        Kit kit = Check.kit(1, 2, 1);
        Check.script(kit, 0, 0, 1, 0);
        Check.due("5001", kit.run(5001), MeetingKit.NONE);
        Check.due("-1", kit.run(-1), MeetingKit.NONE);
        Check.due("least int", kit.run(Integer.MIN_VALUE), MeetingKit.NONE);
        Check.due("most int", kit.run(Integer.MAX_VALUE), MeetingKit.NONE);
        Check.due("a refused run changes nothing", kit.tell(0, 1), 0);
        Check.due("0", kit.run(0), 0);
        Check.due("no beat yet", kit.tell(0, 1), 0);
        Check.due("5000", kit.run(5000), 1);
        Check.due("less than the one reached", kit.run(0), MeetingKit.NONE);
        Check.due("the one reached", kit.run(1), 1);
    }

    private static void howFar() {
        Kit kit = Check.kit(2, 2, 1);
        Check.due("no steps", kit.run(50), 0);
        Check.script(kit, 0, 0, 0, 0, 0, 0, 0);
        Check.due("waits for ever", kit.run(50), 1);
        Check.due("has a step left, but cannot begin it", kit.run(50), 1);
        Check.due("patience", kit.step(1, 0, 0, 0, 10), 1);
        Check.due("up to a beat", kit.run(8), 8);
        Check.ended(kit, "its patience is not over", 1, 0, 1, 0, 2, 0);
        Check.due("up to the end of its patience", kit.run(50), 12);
        Check.ended(kit, "its patience is over", 1, 0, 3, 0, 2, 12);
    }

    private static void patience() {
        Kit kit = Check.kit(3, 2, 1);
        kit.step(0, 0, 0, 0, 1);
        kit.step(1, 0, 0, 0, 2);
        kit.step(2, 0, 0, 0, 1000);
        Check.script(kit, 0, 0, 1, 0);
        Check.due("run", kit.run(2), 2);
        Check.ended(kit, "one beat", 0, 0, 3, 0, 1, 2);
        Check.ended(kit, "let go in this beat", 0, 1, 8, 0, 0, 0);
        Check.ended(kit, "not yet", 1, 0, 1, 0, 1, 0);
        Check.due("run", kit.run(3), 3);
        Check.ended(kit, "patience ends ahead of what others do", 1, 0, 3, 0, 1, 3);
        Check.ended(kit, "let go in time", 2, 0, 0, 0, 1, 3);
        Check.due("run", kit.run(5000), 3);
        Kit longest = Check.kit(5, 2, 1);
        for (int t = 0; t < 5; t++) {
            for (int i = 0; i < 6; i++) {
                longest.step(t, 0, 0, 0, 1000);
            }
        }
        Check.due("run", longest.run(1000), 1000);
        Check.ended(longest, "not yet", 0, 0, 1, 0, 1, 0);
        Check.due("run", longest.run(5000), 5000);
        Check.ended(longest, "a thousand beats", 0, 0, 3, 0, 1, 1001);
        Check.ended(longest, "the next one", 0, 1, 3, 0, 1002, 2002);
        Check.ended(longest, "the last one that ends", 4, 3, 3, 0, 3004, 4004);
        Check.ended(longest, "the last one that begins", 4, 4, 1, 0, 4005, 0);
        Check.due("its patience can be over yet", longest.stuck(0), MeetingKit.NONE);
    }

    private static void threadsByNumber() {
        Kit kit = Check.kit(3, 7, 0);
        Check.script(kit, 2, 0, 0, 0);
        Check.script(kit, 1, 0, 0, 0);
        Check.script(kit, 0, 0, 0, 0);
        Check.due("run", kit.run(9), 1);
        for (int t = 0; t < 3; t++) {
            Check.ended(kit, "tickets", t, 0, 0, t, 1, 1);
        }
    }

    private static void oneStepABeat() {
        Kit kit = Check.kit(1, 7, 0);
        Check.script(kit, 0, 0, 0, 0, 0, 5, 0, 0, 2, 0);
        Check.due("run", kit.run(2), 2);
        Check.ended(kit, "first", 0, 0, 0, 0, 1, 1);
        Check.ended(kit, "misuse", 0, 1, 6, 0, 2, 2);
        Check.ended(kit, "not begun", 0, 2, 8, 0, 0, 0);
        Check.due("run", kit.run(9), 3);
    }

    private static void letGoInThisBeat() {
        Kit kit = Check.kit(3, 10, 0);
        Check.script(kit, 1, 0, 0, 0, 0, 1, 0);
        Check.script(kit, 2, 0, 2, 0, 0, 2, 0);
        Check.script(kit, 0, 0, 2, 0);
        Check.due("run", kit.run(1), 1);
        Check.ended(kit, "it waits", 2, 0, 1, 0, 1, 0);
        Check.due("run", kit.run(2), 2);
        Check.ended(kit, "let go", 2, 0, 0, 0, 1, 2);
        Check.ended(kit, "its next one not in this beat", 2, 1, 8, 0, 0, 0);
        Check.due("run", kit.run(9), 3);
        Check.ended(kit, "but in the next", 2, 1, 0, 0, 3, 3);
        Kit same = Check.kit(2, 4, 0);
        Check.script(same, 0, 0, 0, 1, 0, 0, 2);
        Check.script(same, 1, 0, 0, 3, 0, 0, 4);
        Check.due("run", same.run(1), 1);
        Check.ended(same, "begun and let go in one beat", 0, 0, 0, 3, 1, 1);
        Check.ended(same, "one step a beat", 0, 1, 8, 0, 0, 0);
        Check.due("run", same.run(9), 2);
        Check.ended(same, "the next one", 0, 1, 0, 4, 2, 2);
    }

    private static void goesOnBetweenRuns() {
        Kit kit = Check.kit(1, 2, 1);
        Check.script(kit, 0, 0, 0, 0);
        Check.due("run", kit.run(9), 1);
        Check.due("a device", kit.device(8, 0), 1);
        Check.due("a thread", kit.thread(), 1);
        Check.script(kit, 1, 1, 0, 4, 0, 1, 0);
        Check.due("run", kit.run(9), 3);
        Check.ended(kit, "let go", 0, 0, 0, 0, 1, 3);
        Check.due("the cell", kit.state(1, 4), 4);
    }

    private static void laterPlansKeepItGoing() {
        Kit kit = Check.kit(1, 2, 1);
        kit.interrupt(0, 40);
        kit.close(0, 60);
        Check.due("run", kit.run(30), 30);
        Check.due("run", kit.run(50), 50);
        Check.due("kept", kit.tell(0, 3), 1);
        Check.due("run", kit.run(5000), 60);
        Check.due("closed", kit.state(0, 2), 1);
    }
}
