/** A MeetingKit whose calls are counted: its answers are promised for 512 calls alone, so no test may ask for more. */
final class Kit {
    static final int MOST_CALLS = 512;

    private final MeetingKit kit = new MeetingKit();
    private int calls = 0;

    private MeetingKit counted() {
        calls++;
        if (calls == MOST_CALLS + 1) {
            Check.due("a test's calls of one object", calls, MOST_CALLS);
        }
        return kit;
    }

    int callsLeft() {
        return MOST_CALLS - calls;
    }

    int device(int kind, int n) {
        return counted().device(kind, n);
    }

    int thread() {
        return counted().thread();
    }

    int step(int thread, int device, int act, int a, int patience) {
        return counted().step(thread, device, act, a, patience);
    }

    boolean interrupt(int thread, int beat) {
        return counted().interrupt(thread, beat);
    }

    boolean close(int device, int beat) {
        return counted().close(device, beat);
    }

    int run(int until) {
        return counted().run(until);
    }

    int tell(int thread, int what) {
        return counted().tell(thread, what);
    }

    int outcome(int thread, int i, int what) {
        return counted().outcome(thread, i, what);
    }

    int state(int device, int what) {
        return counted().state(device, what);
    }

    int waiting(int device, int i) {
        return counted().waiting(device, i);
    }

    int passed(int device, int i) {
        return counted().passed(device, i);
    }

    int stuck(int i) {
        return counted().stuck(i);
    }

    /** All that can be asked of it, in one text. */
    String answers() {
        StringBuilder text = new StringBuilder();
        int threads = 0;
        while (tell(threads, 0) != MeetingKit.NONE) {
            addThread(text, threads);
            threads++;
        }
        int devices = 0;
        while (state(devices, 0) != MeetingKit.NONE) {
            addDevice(text, devices);
            devices++;
        }
        text.append("stuck");
        for (int i = 0, t = stuck(0); t != MeetingKit.NONE; i++, t = stuck(i)) {
            text.append(' ').append(t);
        }
        return text.toString();
    }

    private void addThread(StringBuilder text, int thread) {
        text.append("thread ").append(thread);
        for (int what = 1; what < 4; what++) {
            text.append(' ').append(tell(thread, what));
        }
        for (int i = 0; outcome(thread, i, 0) != MeetingKit.NONE; i++) {
            text.append(", step");
            for (int what = 0; what < 4; what++) {
                text.append(' ').append(outcome(thread, i, what));
            }
        }
        text.append("; ");
    }

    private void addDevice(StringBuilder text, int device) {
        text.append("device ").append(device);
        for (int what = 0; what < 5; what++) {
            text.append(' ').append(state(device, what));
        }
        text.append(", line");
        for (int i = 0, t = waiting(device, 0); t != MeetingKit.NONE; i++, t = waiting(device, i)) {
            text.append(' ').append(t);
        }
        text.append(", passed");
        for (int i = 0, t = passed(device, 0); t != MeetingKit.NONE; i++, t = passed(device, i)) {
            text.append(' ').append(t);
        }
        text.append("; ");
    }
}
