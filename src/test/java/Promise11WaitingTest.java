/** Promise 11: waiting answers a device's line, in the order in which they began to wait. */
public final class Promise11WaitingTest {
    public static void main(String[] args) {
        orderOfBeginning();
        goingOutFromTheMiddle();
        allSixteen();
        wrongInputs();
        Check.end("promise 11");
    }

    private static void orderOfBeginning() {
        Kit kit = Check.kit(4, 2, 1, 10, 0);
        Check.script(kit, 0, 1, 2, 0, 1, 2, 0, 0, 0, 0);
        Check.script(kit, 1, 1, 2, 0, 0, 0, 0);
        Check.script(kit, 2, 0, 0, 0);
        Check.script(kit, 3, 1, 2, 0, 0, 0, 0);
        kit.run(1);
        Check.line(kit, "beat 1", 0, 2);
        kit.run(2);
        Check.line(kit, "beat 2", 0, 2, 1, 3);
        kit.run(3);
        Check.line(kit, "beat 3", 0, 2, 1, 3, 0);
        Check.line(kit, "the other device", 1);
    }

    private static void goingOutFromTheMiddle() {
        Kit kit = Check.kit(4, 2, 1);
        for (int t = 0; t < 4; t++) {
            Check.script(kit, t, 0, 0, 0, 0, 0, 0);
        }
        kit.interrupt(1, 2);
        kit.run(2);
        Check.line(kit, "one is out", 0, 0, 2, 3);
        kit.run(3);
        Check.line(kit, "and comes again", 0, 0, 2, 3, 1);
    }

    private static void allSixteen() {
        Kit kit = Check.kit(16, 11, 0, 3, 16);
        int[] all = new int[15];
        for (int t = 0; t < 16; t++) {
            Check.script(kit, t, 1, 0, 0);
            if (t < 15) {
                all[t] = t;
            }
        }
        Check.due("the sixteenth lets all go", kit.run(9), 1);
        Check.line(kit, "nobody waits", 1);
        for (int t = 0; t < 15; t++) {
            Check.script(kit, t, 1, 0, 0);
        }
        kit.run(9);
        Check.line(kit, "fifteen wait", 1, all);
        Check.due("how many wait at the barrier", kit.state(1, 3), 15);
    }

    private static void wrongInputs() {
        Kit kit = Check.kit(1, 2, 1);
        Check.script(kit, 0, 0, 0, 0);
        kit.run(1);
        Check.due("the one that waits", kit.waiting(0, 0), 0);
        int[] wrong = {Integer.MIN_VALUE, -1, 1, Integer.MAX_VALUE};
        for (int w : wrong) {
            Check.due("i " + w, kit.waiting(0, w), MeetingKit.NONE);
            Check.due("device " + w, kit.waiting(w, 0), MeetingKit.NONE);
        }
    }
}
