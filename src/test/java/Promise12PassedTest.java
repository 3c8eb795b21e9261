/** Promise 12: passed answers who passed at a device, in order, the first 300. */
public final class Promise12PassedTest {
    public static void main(String[] args) {
        theOneThatLetsOthersGoIsAhead();
        onlyThoseThatPassed();
        theFirstThreeHundred();
        wrongInputs();
        Check.end("promise 12");
    }

    private static void theOneThatLetsOthersGoIsAhead() {
        Kit kit = Check.kit(4, 2, 1, 3, 4);
        Check.script(kit, 0, 0, 0, 0, 1, 0, 0);
        Check.script(kit, 1, 0, 0, 0, 1, 0, 0);
        Check.script(kit, 2, 0, 0, 0, 1, 0, 0);
        Check.script(kit, 3, 0, 1, 0, 1, 0, 0);
        kit.run(9);
        Check.passed(kit, "gate", 0, 3, 0, 1, 2);
        Check.passed(kit, "barrier", 1, 3, 0, 1, 2);
    }

    private static void onlyThoseThatPassed() {
        Kit kit = Check.kit(3, 0, 1, 2, 1);
        Check.script(kit, 0, 0, 2, 2, 0, 0, 0, 0, 9, 0, 0, 1, 1);
        kit.step(1, 0, 0, 7, 2);
        Check.script(kit, 2, 0, 0, 9);
        kit.interrupt(2, 3);
        kit.run(9);
        Check.passed(kit, "one of all", 0, 0);
        Check.passed(kit, "nobody", 1);
    }

    private static void theFirstThreeHundred() {
        Kit kit = Check.kit(16, 7, 0, 10, 0);
        for (int i = 0; i < 20; i++) {
            for (int t = 0; t < 16; t++) {
                kit.step(t, 0, 0, 0, 0);
            }
        }
        Check.due("run", kit.run(50), 20);
        Check.due("all passed", kit.state(0, 3), 320);
        Check.due("the 17th", kit.passed(0, 16), 0);
        Check.due("the 300th", kit.passed(0, 299), 299 % 16);
        Check.due("the 301st", kit.passed(0, 300), MeetingKit.NONE);
        Check.due("the 320th", kit.passed(0, 319), MeetingKit.NONE);
        Check.due("its outcome", kit.outcome(15, 19, 1), 319);
    }

    private static void wrongInputs() {
        Kit kit = Check.kit(1, 2, 0);
        Check.script(kit, 0, 0, 0, 0);
        kit.run(1);
        Check.due("the one that passed", kit.passed(0, 0), 0);
        int[] wrong = {Integer.MIN_VALUE, -1, 1, 300, Integer.MAX_VALUE};
        for (int w : wrong) {
            Check.due("i " + w, kit.passed(0, w), MeetingKit.NONE);
            Check.due("device " + w, kit.passed(w, 0), MeetingKit.NONE);
        }
    }
}
