import java.util.List;
import java.util.function.ToIntFunction;

/** The edges of the document's first section: an object is used for at most 512 calls. */
public final class EdgesOfCallsTest {
    private static final List<ToIntFunction<MeetingKit>> CALLS = List.of(
            kit -> kit.device(3, 16),
            kit -> kit.thread(),
            kit -> kit.step(1, 0, 1, 5, 7),
            kit -> kit.interrupt(1, 5000) ? 1 : 0,
            kit -> kit.close(0, 5000) ? 1 : 0,
            kit -> kit.run(5000),
            kit -> kit.tell(0, 2),
            kit -> kit.outcome(1, 0, 3),
            kit -> kit.state(0, 3),
            kit -> kit.waiting(0, 0),
            kit -> kit.passed(0, 0),
            kit -> kit.stuck(0));

    /** What each of the calls above answers if it is the next one at the scene. */
    private static final int[] DUE = {1, 2, 2, 1, 1, 1, 0, 1, 1, 0, 1, 0};

    public static void main(String[] args) {
        theLastCall();
        laterCalls();
        Check.end("edges of calls");
    }

    /** Six calls: thread 0 waits at a gate whose count is still 1, and thread 1 passed there. */
    private static MeetingKit scene() {
        MeetingKit kit = new MeetingKit();
        Check.due("device", kit.device(2, 2), 0);
        Check.due("thread", kit.thread(), 0);
        Check.due("thread", kit.thread(), 1);
        Check.due("step", kit.step(0, 0, 0, 0, 0), 1);
        Check.due("step", kit.step(1, 0, 1, 0, 0), 1);
        Check.due("run", kit.run(9), 1);
        return kit;
    }

    /** "An object is used for at most 512 calls after it has been made": the 512th answers like any other. */
    private static void theLastCall() {
        for (int c = 0; c < CALLS.size(); c++) {
            Check.due("call " + c + " as the seventh", CALLS.get(c).applyAsInt(scene()), DUE[c]);
            MeetingKit worn = scene();
            for (int calls = 6; calls < Kit.MOST_CALLS - 1; calls++) {
                Check.due("an idle run", worn.run(1), 1);
            }
            Check.due("call " + c + " as the 512th", CALLS.get(c).applyAsInt(worn), DUE[c]);
        }
    }

    /** "what later calls answer is free": but none of them throws, or fails to end. */
    private static void laterCalls() {
        MeetingKit kit = scene();
        for (int round = 0; round < 5000; round++) {
            for (ToIntFunction<MeetingKit> call : CALLS) {
                call.applyAsInt(kit);
            }
        }
        Check.due("all of them ended", true, true);
    }
}
