import java.util.function.Supplier;
import java.util.function.ToIntFunction;

/** What the tests share: they count wrong answers, and end with exit code 1 if there was one. */
final class Check {
    private static int asked = 0;
    private static int wrong = 0;

    private Check() {
    }

    static void due(String what, long got, long want) {
        asked++;
        if (got != want) {
            wrong++;
            System.out.println(what + " answered " + got + ", due is " + want);
        }
    }

    static void due(String what, boolean got, boolean want) {
        due(what, got ? 1 : 0, want ? 1 : 0);
    }

    /** A kit with so many threads, and devices as kind, n, kind, n .. */
    static Kit kit(int threads, int... kindsAndNs) {
        Kit kit = new Kit();
        for (int i = 0; i < kindsAndNs.length; i += 2) {
            due("device", kit.device(kindsAndNs[i], kindsAndNs[i + 1]), i / 2);
        }
        for (int t = 0; t < threads; t++) {
            due("thread", kit.thread(), t);
        }
        return kit;
    }

    /** Steps without patience behind a thread's script, as device, act, a, device, act, a .. */
    static void script(Kit kit, int thread, int... steps) {
        int had = kit.tell(thread, 0);
        for (int i = 0; i < steps.length; i += 3) {
            due("step", kit.step(thread, steps[i], steps[i + 1], steps[i + 2], 0), had + i / 3 + 1);
        }
    }

    /** One more step at device 0, with all that it leads to; answers its outcome. */
    static int then(Kit kit, int thread, int act, int a) {
        int i = kit.tell(thread, 0);
        script(kit, thread, 0, act, a);
        kit.run(100);
        return kit.outcome(thread, i, 0);
    }

    /** The value of a thread's last step. */
    static int lastValue(Kit kit, int thread) {
        return kit.outcome(thread, kit.tell(thread, 0) - 1, 1);
    }

    /** A step whose outcome is due, with its value, the beat in which it began and the one in which it ended. */
    static void ended(Kit kit, String what, int thread, int i, int... want) {
        for (int w = 0; w < want.length; w++) {
            due(what + ": outcome(" + thread + ", " + i + ", " + w + ")", kit.outcome(thread, i, w), want[w]);
        }
    }

    /** The outcomes of a thread's steps, from the first on. */
    static void outcomes(Kit kit, String what, int thread, int... want) {
        for (int i = 0; i < want.length; i++) {
            ended(kit, what, thread, i, want[i]);
        }
    }

    /** The values of a thread's steps, from the first on. */
    static void values(Kit kit, String what, int thread, int... want) {
        for (int i = 0; i < want.length; i++) {
            due(what + ": outcome(" + thread + ", " + i + ", 1)", kit.outcome(thread, i, 1), want[i]);
        }
    }

    /** What is told of a device, from its kind on. */
    static void state(Kit kit, String name, int device, int... want) {
        for (int what = 0; what < want.length; what++) {
            due(name + ": state(" + device + ", " + what + ")", kit.state(device, what), want[what]);
        }
    }

    static void line(Kit kit, String what, int device, int... threads) {
        due(what + ": state(" + device + ", 1)", kit.state(device, 1), threads.length);
        for (int i = 0; i <= threads.length; i++) {
            int want = i < threads.length ? threads[i] : MeetingKit.NONE;
            due(what + ": waiting(" + device + ", " + i + ")", kit.waiting(device, i), want);
        }
    }

    static void passed(Kit kit, String what, int device, int... threads) {
        for (int i = 0; i <= threads.length; i++) {
            int want = i < threads.length ? threads[i] : MeetingKit.NONE;
            due(what + ": passed(" + device + ", " + i + ")", kit.passed(device, i), want);
        }
    }

    static void stuck(Kit kit, String what, int... threads) {
        for (int i = 0; i <= threads.length; i++) {
            int want = i < threads.length ? threads[i] : MeetingKit.NONE;
            due(what + ": stuck(" + i + ")", kit.stuck(i), want);
        }
    }

    /** A call that is refused: neither what is there, nor what can be done later, is another one for it. */
    static void refused(String what, Supplier<Kit> scene, ToIntFunction<Kit> call, int answer) {
        Kit told = scene.get();
        Kit spared = scene.get();
        due(what, call.applyAsInt(told), answer);
        same(what + " changes nothing", told.answers(), spared.answers());
        same(what + " changes nothing for later", toTheEnd(told), toTheEnd(spared));
    }

    private static void same(String what, String got, String want) {
        asked++;
        if (!got.equals(want)) {
            wrong++;
            System.out.println(what + ", but: " + got + " instead of: " + want);
        }
    }

    private static String toTheEnd(Kit kit) {
        StringBuilder text = new StringBuilder();
        text.append(kit.device(8, 0)).append(' ').append(kit.thread()).append(' ');
        text.append(kit.step(0, 0, 0, 1, 0)).append(' ').append(kit.step(1, 1, 0, 1, 0)).append(' ');
        text.append(kit.interrupt(0, 4990)).append(' ').append(kit.close(0, 4995)).append(' ');
        return text.append(kit.run(5000)).append(' ').append(kit.answers()).toString();
    }

    static void end(String test) {
        System.out.println(test + ": " + asked + " answers, " + wrong + " of them wrong");
        if (wrong != 0 || asked == 0) {
            System.exit(1);
        }
    }
}
