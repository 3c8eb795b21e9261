/** Promise 13: stuck answers those that wait when nothing can happen any more. */
public final class Promise13StuckTest {
    public static void main(String[] args) {
        Kit kit = Check.kit(5, 2, 9, 8, 0);
        Check.stuck(kit, "nobody waits");
        Check.script(kit, 3, 0, 0, 0);
        Check.stuck(kit, "a step can begin");
        kit.run(1);
        Check.stuck(kit, "it waits", 3);
        Check.script(kit, 1, 1, 1, 0, 0, 0, 0);
        Check.script(kit, 4, 1, 1, 0);
        kit.run(2);
        Check.stuck(kit, "by number, whatever steps they have left", 1, 3, 4);
        kit.thread();
        Check.stuck(kit, "a thread without steps can do nothing", 1, 3, 4);
        Check.due("interrupt", kit.interrupt(2, 9), true);
        Check.stuck(kit, "an interrupt is planned");
        kit.run(9);
        Check.stuck(kit, "it is done", 1, 3, 4);
        Check.due("close", kit.close(0, 20), true);
        Check.stuck(kit, "a closing is planned");
        kit.run(20);
        Check.stuck(kit, "it is done", 1, 4);
        kit.step(0, 1, 1, 0, 5);
        kit.run(21);
        Check.stuck(kit, "a patience");
        kit.run(26);
        Check.stuck(kit, "it is over", 1, 4);
        Check.due("i -1", kit.stuck(-1), MeetingKit.NONE);
        Check.due("least int", kit.stuck(Integer.MIN_VALUE), MeetingKit.NONE);
        Check.due("most int", kit.stuck(Integer.MAX_VALUE), MeetingKit.NONE);
        Check.script(kit, 0, 1, 0, 8);
        Check.due("run", kit.run(50), 28);
        Check.stuck(kit, "all went on");
        Check.end("promise 13");
    }
}
