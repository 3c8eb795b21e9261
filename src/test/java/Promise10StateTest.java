/** Promise 10: state answers a device's kind, line, closing, and two numbers that differ by kind. */
public final class Promise10StateTest {
    private static final int[] KINDS = {0, 7, 1, 8, 2, 9, 3, 2, 4, 0, 5, 0, 6, 3, 7, 0, 8, 0, 9, 0, 10, 0, 11, 0};

    public static void main(String[] args) {
        Kit kit = Check.kit(3, KINDS);
        atFirst(kit);
        wrongInputs(kit);
        inUse(kit);
        Check.end("promise 10");
    }

    private static void atFirst(Kit kit) {
        int none = MeetingKit.NONE;
        int[] main = {7, 8, 9, 0, 0, 0, 0, 0, 0, 0, 0, 0};
        int[] side = {0, 0, 0, 0, 0, none, 0, 0, 0, 0, 0, none};
        for (int d = 0; d < 12; d++) {
            Check.state(kit, "kind", d, d, 0, 0, main[d], side[d]);
        }
    }

    private static void wrongInputs(Kit kit) {
        int[] wrong = {Integer.MIN_VALUE, -1, 5, Integer.MAX_VALUE};
        for (int w : wrong) {
            Check.due("what " + w, kit.state(0, w), MeetingKit.NONE);
        }
        int[] wrongDevices = {Integer.MIN_VALUE, -1, 12, Integer.MAX_VALUE};
        for (int w : wrongDevices) {
            Check.due("device " + w, kit.state(w, 0), MeetingKit.NONE);
        }
    }

    private static void inUse(Kit kit) {
        Check.script(kit, 0, 0, 0, 3, 1, 1, 3, 2, 1, 0, 5, 0, 0, 6, 0, -9, 7, 0, 0, 7, 0, 0, 8, 0, -7, 9, 0, 0, 10, 0, 0);
        Check.script(kit, 1, 5, 0, 0, 6, 0, 4, 7, 0, 0, 7, 2, 0, 9, 0, 0, 11, 0, 0, 3, 0, 0);
        Check.script(kit, 2, 4, 0, 0);
        kit.close(1, 20);
        kit.run(20);
        Check.state(kit, "kind", 0, 0, 0, 0, 4, 0);
        Check.state(kit, "kind", 1, 1, 0, 1, 11, 0);
        Check.state(kit, "kind", 2, 2, 0, 0, 8, 0);
        Check.state(kit, "kind", 3, 3, 1, 0, 1, 0);
        Check.state(kit, "kind", 4, 4, 1, 0, 0, 0);
        Check.state(kit, "kind", 5, 5, 0, 0, 2, MeetingKit.NONE);
        Check.state(kit, "kind", 6, 6, 0, 0, 2, 0);
        Check.state(kit, "kind", 7, 7, 0, 0, 3, 1);
        Check.state(kit, "kind", 8, 8, 0, 0, 1, -7);
        Check.state(kit, "kind", 9, 9, 0, 0, 0, 2);
        Check.state(kit, "kind", 10, 10, 0, 0, 1, 0);
        Check.state(kit, "kind", 11, 11, 0, 0, 1, 1);
        kit.interrupt(1, 21);
        kit.interrupt(2, 21);
        Check.script(kit, 1, 11, 1, 0, 9, 1, 0);
        Check.script(kit, 0, 9, 1, 0, 5, 2, 0, 10, 1, 0);
        kit.run(23);
        Check.script(kit, 1, 5, 3, 0);
        kit.run(30);
        Check.state(kit, "kind", 3, 3, 0, 0, 0, 1);
        Check.state(kit, "kind", 4, 4, 0, 0, 0, 0);
        Check.state(kit, "kind", 5, 5, 0, 0, 0, 1);
        Check.state(kit, "kind", 9, 9, 0, 0, 1, 2);
        Check.state(kit, "kind", 10, 10, 0, 0, 0, 0);
        Check.state(kit, "kind", 11, 11, 0, 0, 0, MeetingKit.NONE);
    }
}
