/** What the tests share: they count wrong answers, and end with exit code 1 if there was one. */
final class Check {
    private static int asked = 0;
    private static int wrong = 0;

    private Check() {
    }

    static void due(String what, long got, long want) {
        asked++;
        if (got != want) {
            wrong++;
            System.out.println(what + " answered " + got + ", due is " + want);
        }
    }

    static void due(String what, boolean got, boolean want) {
        due(what, got ? 1 : 0, want ? 1 : 0);
    }

    /** A kit with so many threads, and devices as kind, n, kind, n .. */
    static MeetingKit kit(int threads, int... kindsAndNs) {
        MeetingKit kit = new MeetingKit();
        for (int i = 0; i < kindsAndNs.length; i += 2) {
            due("device", kit.device(kindsAndNs[i], kindsAndNs[i + 1]), i / 2);
        }
        for (int t = 0; t < threads; t++) {
            due("thread", kit.thread(), t);
        }
        return kit;
    }

    /** Steps without patience behind a thread's script, as device, act, a, device, act, a .. */
    static void script(MeetingKit kit, int thread, int... steps) {
        int had = kit.tell(thread, 0);
        for (int i = 0; i < steps.length; i += 3) {
            due("step", kit.step(thread, steps[i], steps[i + 1], steps[i + 2], 0), had + i / 3 + 1);
        }
    }

    /** A step whose outcome is due, with its value, the beat in which it began and the one in which it ended. */
    static void ended(MeetingKit kit, String what, int thread, int i, int... want) {
        for (int w = 0; w < want.length; w++) {
            due(what + ": outcome(" + thread + ", " + i + ", " + w + ")", kit.outcome(thread, i, w), want[w]);
        }
    }

    static void line(MeetingKit kit, String what, int device, int... threads) {
        due(what + ": state(" + device + ", 1)", kit.state(device, 1), threads.length);
        for (int i = 0; i <= threads.length; i++) {
            int want = i < threads.length ? threads[i] : MeetingKit.NONE;
            due(what + ": waiting(" + device + ", " + i + ")", kit.waiting(device, i), want);
        }
    }

    static void passed(MeetingKit kit, String what, int device, int... threads) {
        for (int i = 0; i <= threads.length; i++) {
            int want = i < threads.length ? threads[i] : MeetingKit.NONE;
            due(what + ": passed(" + device + ", " + i + ")", kit.passed(device, i), want);
        }
    }

    static void stuck(MeetingKit kit, String what, int... threads) {
        for (int i = 0; i <= threads.length; i++) {
            int want = i < threads.length ? threads[i] : MeetingKit.NONE;
            due(what + ": stuck(" + i + ")", kit.stuck(i), want);
        }
    }

    static void end(String test) {
        System.out.println(test + ": " + asked + " answers, " + wrong + " of them wrong");
        if (wrong != 0 || asked == 0) {
            System.exit(1);
        }
    }
}
