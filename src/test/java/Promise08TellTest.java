/** Promise 8: tell answers a thread's steps, those begun, where it waits, and whether an interrupt is kept for it. */
public final class Promise08TellTest {
    public static void main(String[] args) {
        Kit kit = Check.kit(2, 10, 0, 2, 1);
        Check.script(kit, 0, 0, 2, 0, 1, 0, 0, 1, 0, 0);
        kit.interrupt(1, 2);
        kit.interrupt(0, 4);
        told(kit, 0, 3, 0, MeetingKit.NONE, 0);
        kit.run(1);
        told(kit, 0, 3, 1, MeetingKit.NONE, 0);
        told(kit, 1, 0, 0, MeetingKit.NONE, 0);
        kit.run(2);
        told(kit, 0, 3, 2, 1, 0);
        told(kit, 1, 0, 0, MeetingKit.NONE, 1);
        kit.run(4);
        told(kit, 0, 3, 2, MeetingKit.NONE, 0);
        kit.run(5);
        told(kit, 0, 3, 3, 1, 0);
        wrongInputs(kit);
        Check.end("promise 8");
    }

    private static void told(Kit kit, int thread, int... want) {
        for (int what = 0; what < want.length; what++) {
            Check.due("tell(" + thread + ", " + what + ")", kit.tell(thread, what), want[what]);
        }
    }

    private static void wrongInputs(Kit kit) {
        int[] wrong = {Integer.MIN_VALUE, -1, 4, Integer.MAX_VALUE};
        for (int w : wrong) {
            Check.due("what " + w, kit.tell(0, w), MeetingKit.NONE);
            Check.due("thread " + w, kit.tell(w, 0), MeetingKit.NONE);
        }
        Check.due("thread 2", kit.tell(2, 3), MeetingKit.NONE);
    }
}
