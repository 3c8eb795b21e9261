/** Promise 2: device makes devices of the twelve kinds, each with the n that its kind allows. */
public final class Promise02DeviceTest {
    private static final int[] LEAST = {0, 0, 0, 1, 0, 0, 0, 0, 0, 0, 0, 0};
    private static final int[] MOST = {100, 100, 100, 16, 0, 0, 8, 0, 0, 0, 0, 0};

    public static void main(String[] args) {
        Kit kit = new Kit();
        Check.due("kind -1", kit.device(-1, 0), MeetingKit.NONE);
        Check.due("kind 12", kit.device(12, 0), MeetingKit.NONE);
        Check.due("kind least int", kit.device(Integer.MIN_VALUE, 0), MeetingKit.NONE);
        Check.due("kind most int", kit.device(Integer.MAX_VALUE, 0), MeetingKit.NONE);
        for (int kind = 0; kind < 12; kind++) {
            Check.due("n too small", kit.device(kind, LEAST[kind] - 1), MeetingKit.NONE);
            Check.due("n too large", kit.device(kind, MOST[kind] + 1), MeetingKit.NONE);
            Check.due("n least int", kit.device(kind, Integer.MIN_VALUE), MeetingKit.NONE);
            Check.due("n most int", kit.device(kind, Integer.MAX_VALUE), MeetingKit.NONE);
            Check.due("kind " + kind, kit.device(kind, MOST[kind]), kind);
            Check.due("its kind", kit.state(kind, 0), kind);
        }
        Check.due("a 13th", kit.device(0, 0), MeetingKit.NONE);
        Check.due("there is none such", kit.state(12, 0), MeetingKit.NONE);
        least();
        Check.end("promise 2");
    }

    private static void least() {
        Kit kit = new Kit();
        for (int kind = 0; kind < 12; kind++) {
            Check.due("least n of kind " + kind, kit.device(kind, LEAST[kind]), kind);
            Check.due("nobody waits", kit.state(kind, 1), 0);
            Check.due("not closed", kit.state(kind, 2), 0);
        }
    }
}
