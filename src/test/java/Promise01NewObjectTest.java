/** Promise 1: a new object has no threads and no devices, and stands at beat 0. */
public final class Promise01NewObjectTest {
    public static void main(String[] args) {
        Kit kit = new Kit();
        Check.due("no thread", kit.tell(0, 0), MeetingKit.NONE);
        Check.due("no device", kit.state(0, 0), MeetingKit.NONE);
        Check.due("no step", kit.outcome(0, 0, 0), MeetingKit.NONE);
        Check.due("no line", kit.waiting(0, 0), MeetingKit.NONE);
        Check.due("nobody passed", kit.passed(0, 0), MeetingKit.NONE);
        Check.due("nobody stuck", kit.stuck(0), MeetingKit.NONE);
        Check.due("no beat below 0", kit.run(-1), MeetingKit.NONE);
        Check.due("beat 0 is reached", kit.run(0), 0);
        Check.due("nothing can happen", kit.run(5000), 0);
        Check.due("first device", kit.device(0, 0), 0);
        Check.due("first thread", kit.thread(), 0);
        Kit other = new Kit();
        Check.due("objects share nothing: threads", other.tell(0, 0), MeetingKit.NONE);
        Check.due("objects share nothing: devices", other.state(0, 0), MeetingKit.NONE);
        Check.due("NONE", MeetingKit.NONE, -1);
        Check.end("promise 1");
    }
}
