import java.util.function.Predicate;
import java.util.function.Supplier;

/** The edges of promises 5 and 6: interrupt and close. */
public final class EdgesOfPlansTest {
    public static void main(String[] args) {
        interruptOfNoThread();
        interruptNotLater();
        interruptNotLaterOfANewObject();
        interruptAboveTheLastBeat();
        interruptBehindTheLastBeat();
        interruptThatIsPlanned();
        interruptThatWasDone();
        eachPlanInItsBeat();
        closeOfNoDevice();
        closeNotLater();
        closeAboveTheLastBeat();
        closeOnceOnly();
        closeThatWasDone();
        twoHundredInterrupts();
        twoHundredOfBoth();
        twoHundredThatAreDone();
        refusedOnesDoNotCount();
        Check.end("edges of plans");
    }

    private static void refused(String what, Supplier<Kit> scene, Predicate<Kit> plan) {
        Check.refused(what, scene, kit -> plan.test(kit) ? 1 : 0, 0);
    }

    /** Promise 5: "False: there is no such THREAD". */
    private static void interruptOfNoThread() {
        int[] others = {Integer.MIN_VALUE, -1, Midway.THREADS, 16, Integer.MAX_VALUE};
        for (int thread : others) {
            refused("thread " + thread, Midway::kit, kit -> kit.interrupt(thread, 10));
        }
        Check.due("thread 0", Midway.kit().interrupt(0, 10), true);
        Check.due("the last thread", Midway.kit().interrupt(Midway.THREADS - 1, 10), true);
    }

    /** Promise 5: "the beat is not later than the one reached". */
    private static void interruptNotLater() {
        int[] others = {Integer.MIN_VALUE, -1, 0, Midway.BEAT - 1, Midway.BEAT};
        for (int beat : others) {
            refused("beat " + beat, Midway::kit, kit -> kit.interrupt(1, beat));
        }
        Kit kit = Midway.kit();
        Check.due("the next beat", kit.interrupt(1, Midway.BEAT + 1), true);
        kit.run(Midway.BEAT + 1);
        Check.ended(kit, "interrupted in it", 1, 0, 2, 0, 1, Midway.BEAT + 1);
    }

    /** Promise 5: "not later than the one reached": beat 0 at first. */
    private static void interruptNotLaterOfANewObject() {
        Check.due("beat 0", Check.kit(1, 2, 1).interrupt(0, 0), false);
        Check.due("beat 1", Check.kit(1, 2, 1).interrupt(0, 1), true);
        Check.due("close in beat 0", Check.kit(1, 2, 1).close(0, 0), false);
        Check.due("close in beat 1", Check.kit(1, 2, 1).close(0, 1), true);
    }

    /** Promise 5: "it is above 5000". */
    private static void interruptAboveTheLastBeat() {
        int[] others = {5001, 5002, 1 << 28, Integer.MAX_VALUE};
        for (int beat : others) {
            refused("beat " + beat, Midway::kit, kit -> kit.interrupt(0, beat));
        }
        Kit kit = Midway.kit();
        Check.due("beat 5000", kit.interrupt(3, 5000), true);
        Check.script(kit, 3, 0, 0, 0, 0, 0, 0);
        Check.due("run", kit.run(4999), 4999);
        Check.ended(kit, "it waits", 3, 1, 1, 0, 5, 0);
        Check.due("run", kit.run(5000), 5000);
        Check.ended(kit, "interrupted in the last beat", 3, 1, 2, 0, 5, 5000);
    }

    /** Promise 5: "not later than the one reached": behind beat 5000 there is none. */
    private static void interruptBehindTheLastBeat() {
        Supplier<Kit> atTheEnd = () -> {
            Kit kit = Check.kit(2, 2, 1, 2, 1);
            Check.due("interrupt", kit.interrupt(0, 5000), true);
            Check.due("run", kit.run(5000), 5000);
            return kit;
        };
        for (int beat = 4999; beat <= 5001; beat++) {
            int when = beat;
            refused("interrupt in beat " + beat, atTheEnd, kit -> kit.interrupt(1, when));
            refused("close in beat " + beat, atTheEnd, kit -> kit.close(0, when));
        }
    }

    /** Promise 5: "or this one is": the same thread and the same beat. */
    private static void interruptThatIsPlanned() {
        refused("thread 0 in beat 7 again", Midway::kit, kit -> kit.interrupt(0, 7));
        Check.due("thread 1 in beat 7", Midway.kit().interrupt(1, 7), true);
        Check.due("thread 0 in beat 6", Midway.kit().interrupt(0, 6), true);
        Check.due("thread 0 in beat 8", Midway.kit().interrupt(0, 8), true);
        Kit kit = Check.kit(16, 2, 1);
        for (int t = 15; t >= 0; t--) {
            Check.due("thread", kit.interrupt(t, 5), true);
            Check.due("thread", kit.interrupt(t, 4), true);
            Check.due("again", kit.interrupt(t, 5), false);
            Check.due("again", kit.interrupt(t, 4), false);
        }
    }

    /** Promise 5: "or this one is": one that was done is for no later beat. */
    private static void interruptThatWasDone() {
        refused("thread 3 in beat 2 again", Midway::kit, kit -> kit.interrupt(3, 2));
        Check.due("thread 3 in a later beat", Midway.kit().interrupt(3, 4), true);
    }

    /** Promises 5 and 6: "is planned for a beat": each for its own, though nothing else happens in between. */
    private static void eachPlanInItsBeat() {
        int[] beats = {17, 5000, 16, 4999};
        Kit kit = Check.kit(4, 2, 1, 2, 1, 2, 1);
        int[] devices = {0, 0, 1, 2};
        for (int t = 0; t < 4; t++) {
            Check.script(kit, t, devices[t], 0, 0);
            boolean isTaken = t < 2 ? kit.interrupt(t, beats[t]) : kit.close(devices[t], beats[t]);
            Check.due("plan", isTaken, true);
        }
        Check.due("run", kit.run(5000), 5000);
        for (int t = 0; t < 4; t++) {
            Check.ended(kit, "in its beat", t, 0, t < 2 ? 2 : 4, 0, 1, beats[t]);
        }
    }

    /** Promise 6: "likewise": there is no such device. */
    private static void closeOfNoDevice() {
        int[] others = {Integer.MIN_VALUE, -1, Midway.DEVICES, 12, Integer.MAX_VALUE};
        for (int device : others) {
            refused("device " + device, Midway::kit, kit -> kit.close(device, 10));
        }
        Check.due("device 0", Midway.kit().close(0, 10), true);
        Check.due("the last device", Midway.kit().close(Midway.DEVICES - 1, 10), true);
    }

    /** Promise 6: "likewise": the beat is not later than the one reached. */
    private static void closeNotLater() {
        int[] others = {Integer.MIN_VALUE, -1, 0, Midway.BEAT - 1, Midway.BEAT};
        for (int beat : others) {
            refused("beat " + beat, Midway::kit, kit -> kit.close(0, beat));
        }
        Kit kit = Midway.kit();
        Check.due("the next beat", kit.close(0, Midway.BEAT + 1), true);
        kit.run(Midway.BEAT + 1);
        Check.ended(kit, "closed in it", 0, 0, 4, 0, 1, Midway.BEAT + 1);
    }

    /** Promise 6: "likewise": it is above 5000. */
    private static void closeAboveTheLastBeat() {
        int[] others = {5001, 5002, Integer.MAX_VALUE};
        for (int beat : others) {
            refused("beat " + beat, Midway::kit, kit -> kit.close(0, beat));
        }
        Kit kit = Midway.kit();
        Check.due("beat 5000", kit.close(0, 5000), true);
        Check.due("run", kit.run(4999), 4999);
        Check.due("not closed yet", kit.state(0, 2), 0);
        Check.due("run", kit.run(5000), 5000);
        Check.due("closed", kit.state(0, 2), 1);
    }

    /** Promise 6: "(a DEVICE is closed once: false, if it is planned for any beat ..)". */
    private static void closeOnceOnly() {
        int[] beats = {Midway.BEAT + 1, 7, 8, 9, 5000};
        for (int beat : beats) {
            refused("device 2 in beat " + beat, Midway::kit, kit -> kit.close(2, beat));
        }
        Check.due("another one in that beat", Midway.kit().close(1, 8), true);
    }

    /** Promise 6: "or done". */
    private static void closeThatWasDone() {
        Supplier<Kit> closed = () -> {
            Kit kit = Midway.kit();
            Check.due("run", kit.run(8), 8);
            Check.due("closed", kit.state(2, 2), 1);
            return kit;
        };
        refused("in the next beat", closed, kit -> kit.close(2, 9));
        refused("in the last beat", closed, kit -> kit.close(2, 5000));
        refused("in the same beat", closed, kit -> kit.close(2, 8));
    }

    /** So many interrupts of thread 0, the later ones first. */
    private static Kit withInterrupts(int count) {
        Kit kit = Check.kit(2, 2, 1, 2, 1);
        for (int i = 0; i < count; i++) {
            Check.due("interrupt", kit.interrupt(0, 300 - i), true);
        }
        return kit;
    }

    /** Promise 5: "200 interrupts and closings were planned": the 200th, and one more. */
    private static void twoHundredInterrupts() {
        Check.due("the 200th", withInterrupts(199).interrupt(1, 1), true);
        refused("a 201st", () -> withInterrupts(200), kit -> kit.interrupt(1, 1));
        refused("a 201st", () -> withInterrupts(200), kit -> kit.interrupt(0, 301));
        refused("a closing as the 201st", () -> withInterrupts(200), kit -> kit.close(0, 1));
        Kit kit = withInterrupts(200);
        Check.due("up to the last of them", kit.run(5000), 300);
    }

    /** "200 interrupts and closings": counted together. */
    private static void twoHundredOfBoth() {
        Supplier<Kit> both = () -> {
            Kit kit = withInterrupts(199);
            Check.due("a closing as the 200th", kit.close(0, 400), true);
            return kit;
        };
        refused("an interrupt as the 201st", both, kit -> kit.interrupt(1, 1));
        refused("a closing as the 201st", both, kit -> kit.close(1, 1));
        Check.due("up to the closing", both.get().run(5000), 400);
        Kit kit = new Kit();
        kit.thread();
        for (int d = 0; d < 12; d++) {
            Check.due("device", kit.device(8, 0), d);
            Check.due("a closing", kit.close(d, 1), true);
        }
        for (int beat = 1; beat <= 188; beat++) {
            Check.due("an interrupt", kit.interrupt(0, beat), true);
        }
        Check.due("a 201st", kit.interrupt(0, 189), false);
    }

    /** "were planned": those that are done count too. */
    private static void twoHundredThatAreDone() {
        Supplier<Kit> done = () -> {
            Kit kit = withInterrupts(200);
            Check.due("run", kit.run(5000), 300);
            return kit;
        };
        refused("an interrupt", done, kit -> kit.interrupt(0, 301));
        refused("a closing", done, kit -> kit.close(0, 301));
    }

    /** "a refused call changes nothing": it is none of the 200. */
    private static void refusedOnesDoNotCount() {
        Kit kit = withInterrupts(199);
        for (int i = 0; i < 50; i++) {
            Check.due("this one is planned", kit.interrupt(0, 300 - i), false);
            Check.due("no such device", kit.close(2, 301 + i), false);
        }
        Check.due("the 200th", kit.close(0, 1), true);
        Check.due("a 201st", kit.close(1, 1), false);
    }
}
