import java.util.function.ToIntFunction;

/** The edges of promises 1 to 4: a new object, device, thread, step. */
public final class EdgesOfMakingTest {
    private static final int NONE = MeetingKit.NONE;

    public static void main(String[] args) {
        emptyObject();
        emptyObjectRefuses();
        deviceNumbers();
        deviceOfNoKindOrOfAnotherN();
        deviceWhenThereAreTwelve();
        threadNumbers();
        threadWhenThereAreSixteen();
        stepsOfAScript();
        stepOfNoThread();
        stepAtNoDevice();
        stepAtAClosedDevice();
        stepWhenItHasTwenty();
        stepWithAnotherAct();
        stepWithAnotherNumber();
        stepWithAnotherPatience();
        Check.end("edges of making");
    }

    /** Promise 4: "NONE: there is no such .. DEVICE": one that is closed is there; term 1: "later: 4". */
    private static void stepAtAClosedDevice() {
        Kit kit = Check.kit(2, 10, 0);
        Check.due("close", kit.close(0, 1), true);
        Check.due("run", kit.run(9), 1);
        Check.due("step", kit.step(1, 0, 2, 0, 0), 1);
        Check.due("run", kit.run(9), 2);
        Check.ended(kit, "closed", 1, 0, 4, 0, 2, 2);
    }

    private static void refused(String what, ToIntFunction<Kit> call) {
        Check.refused(what, Midway::kit, call, NONE);
    }

    /** Promise 1: "No THREADS, no DEVICES; beat 0." */
    private static void emptyObject() {
        Kit kit = new Kit();
        Check.due("no thread", kit.tell(0, 0), NONE);
        Check.due("no step", kit.outcome(0, 0, 0), NONE);
        Check.due("no device", kit.state(0, 0), NONE);
        Check.due("no line", kit.waiting(0, 0), NONE);
        Check.due("nobody passed", kit.passed(0, 0), NONE);
        Check.due("nobody is stuck", kit.stuck(0), NONE);
        Check.due("less than beat 0", kit.run(-1), NONE);
        Check.due("beat 0", kit.run(0), 0);
        Check.due("nothing can happen", kit.run(5000), 0);
    }

    /** Promise 1: "No THREADS, no DEVICES": so there is nothing to plan, and nothing for a step. */
    private static void emptyObjectRefuses() {
        Check.refused("a step", Kit::new, kit -> kit.step(0, 0, 0, 0, 0), NONE);
        Check.refused("an interrupt", Kit::new, kit -> kit.interrupt(0, 1) ? 1 : 0, 0);
        Check.refused("a closing", Kit::new, kit -> kit.close(0, 1) ? 1 : 0, 0);
        Check.refused("a step without a device", () -> Check.kit(1), kit -> kit.step(0, 0, 0, 0, 0), NONE);
        Check.refused("a closing without a device", () -> Check.kit(1), kit -> kit.close(0, 1) ? 1 : 0, 0);
        Check.refused("a step without a thread", () -> Check.kit(0, 10, 0), kit -> kit.step(0, 0, 0, 0, 0), NONE);
        Check.refused("an interrupt without a thread", () -> Check.kit(0, 10, 0),
                kit -> kit.interrupt(0, 1) ? 1 : 0, 0);
    }

    /** Promise 2: "A DEVICE is made: its number": refused ones have none. */
    private static void deviceNumbers() {
        Kit kit = new Kit();
        for (int d = 0; d < 12; d++) {
            Check.due("refused", kit.device(12, 0), NONE);
            Check.due("refused", kit.device(0, 101), NONE);
            Check.due("its number", kit.device(1, d), d);
            Check.state(kit, "as it was made", d, 1, 0, 0, d, 0);
        }
    }

    /** Promise 2: "NONE: .. no such KIND, or another n." */
    private static void deviceOfNoKindOrOfAnotherN() {
        refused("kind -1", kit -> kit.device(-1, 0));
        refused("kind 12", kit -> kit.device(12, 0));
        refused("a hundred and one permits", kit -> kit.device(0, 101));
        refused("no party", kit -> kit.device(3, 0));
        refused("17 parties", kit -> kit.device(3, 17));
        refused("an exchange with a number", kit -> kit.device(4, 1));
        refused("room for 9", kit -> kit.device(6, 9));
        Check.due("16 parties", Midway.kit().device(3, 16), Midway.DEVICES);
        Check.due("room for 8", Midway.kit().device(6, 8), Midway.DEVICES);
    }

    /** Promise 2: "NONE: there are 12". */
    private static void deviceWhenThereAreTwelve() {
        Check.due("the 12th", midwayWithDevices(11).device(8, 0), 11);
        Check.refused("a 13th", () -> midwayWithDevices(12), kit -> kit.device(8, 0), NONE);
        Check.refused("a 13th of no kind", () -> midwayWithDevices(12), kit -> kit.device(12, 0), NONE);
    }

    private static Kit midwayWithDevices(int count) {
        Kit kit = Midway.kit();
        for (int d = Midway.DEVICES; d < count; d++) {
            Check.due("device", kit.device(8, 0), d);
        }
        return kit;
    }

    /** Promise 3: "A THREAD is made, without STEPS: its number." */
    private static void threadNumbers() {
        Kit kit = new Kit();
        for (int t = 0; t < 16; t++) {
            Check.due("its number", kit.thread(), t);
            Check.due("without steps", kit.tell(t, 0), 0);
            Check.due("no step", kit.outcome(t, 0, 0), NONE);
        }
        Check.due("it begins none", kit.run(5000), 0);
    }

    /** Promise 3: "NONE: there are 16." */
    private static void threadWhenThereAreSixteen() {
        Check.due("the 16th", midwayWithThreads(15).thread(), 15);
        Check.refused("a 17th", () -> midwayWithThreads(16), Kit::thread, NONE);
    }

    private static Kit midwayWithThreads(int count) {
        Kit kit = Midway.kit();
        for (int t = Midway.THREADS; t < count; t++) {
            Check.due("thread", kit.thread(), t);
        }
        return kit;
    }

    /** Promise 4: "A STEP comes behind a THREAD's SCRIPT: how many it has." */
    private static void stepsOfAScript() {
        Kit kit = Check.kit(2, 7, 0);
        for (int i = 1; i <= 20; i++) {
            Check.due("refused", kit.step(0, 0, 10, 0, 0), NONE);
            Check.due("how many it has", kit.step(0, 0, 0, 0, 0), i);
            Check.due("how many it has", kit.tell(0, 0), i);
            Check.due("the other one", kit.tell(1, 0), 0);
        }
    }

    /** Promise 4: "NONE: there is no such THREAD". */
    private static void stepOfNoThread() {
        int[] others = {Integer.MIN_VALUE, -1, Midway.THREADS, 16, Integer.MAX_VALUE};
        for (int thread : others) {
            refused("thread " + thread, kit -> kit.step(thread, 0, 0, 0, 0));
        }
        Check.due("thread 0", Midway.kit().step(0, 0, 0, 0, 0), 3);
        Check.due("the last thread", Midway.kit().step(Midway.THREADS - 1, 0, 0, 0, 0), 1);
    }

    /** Promise 4: "NONE: there is no such .. DEVICE". */
    private static void stepAtNoDevice() {
        int[] others = {Integer.MIN_VALUE, -1, Midway.DEVICES, 12, Integer.MAX_VALUE};
        for (int device : others) {
            refused("device " + device, kit -> kit.step(3, device, 0, 0, 0));
        }
        Check.due("device 0", Midway.kit().step(3, 0, 0, 0, 0), 1);
        Check.due("the last device", Midway.kit().step(3, Midway.DEVICES - 1, 0, 0, 0), 1);
    }

    /** Promise 4: "NONE: .. it has 20". */
    private static void stepWhenItHasTwenty() {
        Check.due("the 20th", midwayWithSteps(19).step(3, 2, 2, 0, 0), 20);
        Check.refused("a 21st", () -> midwayWithSteps(20), kit -> kit.step(3, 2, 2, 0, 0), NONE);
    }

    private static Kit midwayWithSteps(int count) {
        Kit kit = Midway.kit();
        for (int i = 1; i <= count; i++) {
            Check.due("step", kit.step(3, 3, 2, 0, 0), i);
        }
        return kit;
    }

    /** Promise 4: "NONE: .. act is not 0 .. 9": misuse is told by the outcome only. */
    private static void stepWithAnotherAct() {
        int[] others = {Integer.MIN_VALUE, -1, 10, Integer.MAX_VALUE};
        for (int act : others) {
            refused("act " + act, kit -> kit.step(3, 0, act, 0, 0));
        }
        for (int act = 0; act <= 9; act += 9) {
            Kit kit = Midway.kit();
            Check.due("act " + act, kit.step(3, 2, act, 0, 0), 1);
            kit.run(4);
            Check.ended(kit, "begun", 3, 0, act == 0 ? 0 : 6, 0, 4, 4);
        }
    }

    /** Promise 4: "NONE: .. a not -1000000 .. 1000000". */
    private static void stepWithAnotherNumber() {
        int[] others = {Integer.MIN_VALUE, -1000001, 1000001, Integer.MAX_VALUE};
        for (int a : others) {
            refused("a " + a, kit -> kit.step(3, 0, 1, a, 0));
        }
        int[] such = {-1000000, -1, 0, 1000000};
        for (int a : such) {
            Kit kit = Check.kit(1, 8, 0);
            Check.due("a " + a, kit.step(0, 0, 0, a, 0), 1);
            kit.run(1);
            Check.due("as it was told", kit.state(0, 4), a);
        }
    }

    /** Promise 4: "NONE: .. or another patience." */
    private static void stepWithAnotherPatience() {
        int[] others = {Integer.MIN_VALUE, -1, 1001, Integer.MAX_VALUE};
        for (int patience : others) {
            refused("patience " + patience, kit -> kit.step(3, 0, 1, 0, patience));
        }
        int[] such = {0, 1, 1000};
        for (int patience : such) {
            Check.due("patience " + patience, Midway.kit().step(3, 0, 1, 0, patience), 1);
        }
    }
}
