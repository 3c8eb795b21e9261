/** A kit in the midst of a run, for calls that must change nothing of it. */
final class Midway {
    static final int THREADS = 4;
    static final int DEVICES = 4;
    static final int BEAT = 3;

    private Midway() {
    }

    /**
     * In beat 3 thread 0 waits for ever, thread 1 has patience up to beat 9, thread 2 has steps left, and thread 3
     * keeps an interrupt; an interrupt is planned for beat 7 and a closing for beat 8.
     */
    static Kit kit() {
        Kit kit = Check.kit(THREADS, 2, 2, 1, 1, 10, 0, 3, 2);
        Check.script(kit, 0, 0, 0, 0, 2, 2, 0);
        Check.due("step", kit.step(1, 1, 0, 5, 8), 1);
        Check.script(kit, 2, 2, 2, 0, 0, 1, 0, 2, 2, 0, 1, 1, 2, 3, 0, 0);
        Check.due("interrupt", kit.interrupt(3, 2), true);
        Check.due("interrupt", kit.interrupt(0, 7), true);
        Check.due("close", kit.close(2, 8), true);
        Check.due("run", kit.run(BEAT), BEAT);
        return kit;
    }
}
