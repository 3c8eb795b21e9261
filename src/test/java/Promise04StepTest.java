/** Promise 4: step puts a step behind a thread's script, or refuses it and changes nothing. */
public final class Promise04StepTest {
    public static void main(String[] args) {
        Kit kit = Check.kit(2, 0, 5, 2, 1);
        refused(kit, "thread -1", -1, 0, 0, 1, 0);
        refused(kit, "thread 2", 2, 0, 0, 1, 0);
        refused(kit, "device -1", 0, -1, 0, 1, 0);
        refused(kit, "device 2", 0, 2, 0, 1, 0);
        refused(kit, "act -1", 0, 0, -1, 1, 0);
        refused(kit, "act 10", 0, 0, 10, 1, 0);
        refused(kit, "a too small", 0, 0, 0, -1000001, 0);
        refused(kit, "a too large", 0, 0, 0, 1000001, 0);
        refused(kit, "patience -1", 0, 0, 0, 1, -1);
        refused(kit, "patience 1001", 0, 0, 0, 1, 1001);
        refused(kit, "least ints", Integer.MIN_VALUE, Integer.MIN_VALUE, Integer.MIN_VALUE,
                Integer.MIN_VALUE, Integer.MIN_VALUE);
        refused(kit, "most ints", Integer.MAX_VALUE, Integer.MAX_VALUE, Integer.MAX_VALUE,
                Integer.MAX_VALUE, Integer.MAX_VALUE);
        Check.due("least act and a", kit.step(0, 0, 0, -1000000, 0), 1);
        Check.due("most act, a and patience", kit.step(0, 1, 9, 1000000, 1000), 2);
        for (int i = 3; i <= 20; i++) {
            Check.due("step", kit.step(0, 0, 1, 1, 1), i);
        }
        Check.due("a 21st", kit.step(0, 0, 1, 1, 1), MeetingKit.NONE);
        Check.due("it has 20", kit.tell(0, 0), 20);
        Check.due("the other one has none", kit.tell(1, 0), 0);
        Check.due("run", kit.run(100), 20);
        Check.due("still a 21st", kit.step(0, 0, 1, 1, 1), MeetingKit.NONE);
        Check.ended(kit, "in their order", 0, 0, 6, 0, 1, 1);
        Check.ended(kit, "in their order", 0, 1, 6, 0, 2, 2);
        Check.ended(kit, "in their order", 0, 2, 0, 6, 3, 3);
        Check.ended(kit, "in their order", 0, 19, 0, 23, 20, 20);
        Check.end("promise 4");
    }

    private static void refused(Kit kit, String what, int thread, int device, int act, int a, int patience) {
        Check.due(what, kit.step(thread, device, act, a, patience), MeetingKit.NONE);
        Check.due(what + " changes nothing", kit.tell(0, 0), 0);
    }
}
