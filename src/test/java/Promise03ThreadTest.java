/** Promise 3: thread makes up to 16 threads, without steps. */
public final class Promise03ThreadTest {
    public static void main(String[] args) {
        Kit kit = new Kit();
        for (int t = 0; t < 16; t++) {
            Check.due("not there yet", kit.tell(t, 0), MeetingKit.NONE);
            Check.due("thread", kit.thread(), t);
            Check.due("no steps", kit.tell(t, 0), 0);
            Check.due("none begun", kit.tell(t, 1), 0);
            Check.due("waits nowhere", kit.tell(t, 2), MeetingKit.NONE);
            Check.due("no interrupt kept", kit.tell(t, 3), 0);
        }
        Check.due("a 17th", kit.thread(), MeetingKit.NONE);
        Check.due("still a 17th", kit.thread(), MeetingKit.NONE);
        Check.due("there is none such", kit.tell(16, 0), MeetingKit.NONE);
        betweenRuns();
        Check.end("promise 3");
    }

    private static void betweenRuns() {
        Kit kit = Check.kit(1, 2, 0);
        Check.script(kit, 0, 0, 0, 0);
        Check.due("run", kit.run(9), 1);
        Check.due("a thread between runs", kit.thread(), 1);
        Check.script(kit, 1, 0, 0, 0);
        Check.due("run", kit.run(9), 2);
        Check.ended(kit, "it goes on from there", 1, 0, 0, 0, 2, 2);
    }
}
