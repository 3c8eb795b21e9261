/** Promise 6: close plans the one closing of a device; what it does to those there and to those that come. */
public final class Promise06CloseTest {
    public static void main(String[] args) {
        refusals();
        closing();
        closingLetsNobodyElseGo();
        closingBreaksNoBarrier();
        everyStepThatBeginsThereLater();
        Check.end("promise 6");
    }

    private static void refusals() {
        Kit kit = Check.kit(1, 2, 1, 2, 1);
        Check.due("device -1", kit.close(-1, 1), false);
        Check.due("device 2", kit.close(2, 1), false);
        Check.due("beat 0", kit.close(0, 0), false);
        Check.due("beat 5001", kit.close(0, 5001), false);
        Check.due("least ints", kit.close(Integer.MIN_VALUE, Integer.MIN_VALUE), false);
        Check.due("most ints", kit.close(Integer.MAX_VALUE, Integer.MAX_VALUE), false);
        Check.due("beat 2", kit.close(0, 2), true);
        Check.due("the same", kit.close(0, 2), false);
        Check.due("an earlier one", kit.close(0, 1), false);
        Check.due("a later one", kit.close(0, 3), false);
        Check.due("another device", kit.close(1, 5000), true);
        Check.due("planned is not closed", kit.state(0, 2), 0);
        Check.due("run", kit.run(4), 4);
        Check.due("closed", kit.state(0, 2), 1);
        Check.due("the other one not yet", kit.state(1, 2), 0);
        Check.due("done", kit.close(0, 9), false);
        Check.due("run up to the last plan", kit.run(5000), 5000);
        Check.due("closed", kit.state(1, 2), 1);
        Kit later = Check.kit(1, 2, 1);
        later.interrupt(0, 3);
        later.run(3);
        Check.due("the one reached", later.close(0, 3), false);
        Check.due("the next one", later.close(0, 4), true);
    }

    private static void closing() {
        Kit kit = Check.kit(3, 2, 5, 10, 0);
        Check.script(kit, 0, 0, 0, 0, 0, 0, 0, 1, 2, 0);
        Check.script(kit, 1, 0, 0, 0);
        Check.script(kit, 2, 0, 1, 0);
        kit.close(0, 3);
        Check.due("run", kit.run(3), 3);
        Check.ended(kit, "all that wait", 0, 0, 4, 0, 1, 3);
        Check.ended(kit, "all that wait", 1, 0, 4, 0, 1, 3);
        Check.ended(kit, "let go in this beat", 0, 1, 8, 0, 0, 0);
        Check.line(kit, "nobody is left", 0);
        Check.due("run", kit.run(9), 5);
        Check.ended(kit, "begun later", 0, 1, 4, 0, 4, 4);
        Check.ended(kit, "elsewhere", 0, 2, 0, 0, 5, 5);
        Check.due("its state stays", kit.state(0, 3), 4);
        Check.passed(kit, "closed is not passed", 0, 2);
    }

    private static void closingLetsNobodyElseGo() {
        Kit kit = Check.kit(2, 1, 1);
        Check.script(kit, 0, 0, 0, 5);
        Check.script(kit, 1, 0, 0, 1);
        kit.close(0, 2);
        Check.due("run", kit.run(9), 2);
        Check.ended(kit, "the first", 0, 0, 4, 0, 1, 2);
        Check.ended(kit, "the one behind it", 1, 0, 4, 0, 1, 2);
        Check.due("permits", kit.state(0, 3), 1);
    }

    private static void closingBreaksNoBarrier() {
        Kit kit = Check.kit(1, 3, 2);
        Check.script(kit, 0, 0, 0, 0);
        kit.close(0, 2);
        Check.due("run", kit.run(9), 2);
        Check.ended(kit, "closed", 0, 0, 4, 0, 1, 2);
        Check.due("not broken", kit.state(0, 4), 0);
    }

    private static void everyStepThatBeginsThereLater() {
        Kit kit = Check.kit(1, 0, 9);
        Check.script(kit, 0, 0, 0, 1, 0, 1, 1, 0, 2, 1, 0, 9, 0, 0, 0, 0);
        kit.close(0, 1);
        Check.due("run", kit.run(9), 5);
        for (int i = 0; i < 5; i++) {
            Check.ended(kit, "closed, misuse or not", 0, i, 4, 0, i + 1, i + 1);
        }
        Check.due("nothing is done", kit.state(0, 3), 9);
    }
}
