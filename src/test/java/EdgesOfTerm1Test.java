/** The edges of term 1, first part: threads, scripts, devices, and the beats from the first on. */
public final class EdgesOfTerm1Test {
    private static final int NONE = MeetingKit.NONE;

    public static void main(String[] args) {
        sixteenThreads();
        allSixteenTakePart();
        twentySteps();
        twentyStepsThatAreDone();
        patienceTooSmall();
        patienceForEver();
        patienceOfOneBeat();
        patienceOfAThousandBeats();
        patienceUpToTheLastBeat();
        twelveDevices();
        allTwelveAreApart();
        twelveKinds();
        beatsFromOneOn();
        Check.end("edges of term 1");
    }

    /** "THREADS (at most 16, from 0 on)". */
    private static void sixteenThreads() {
        Kit kit = Check.kit(0, 10, 0);
        Check.due("no thread yet", kit.tell(0, 0), NONE);
        for (int t = 0; t < 16; t++) {
            Check.due("thread", kit.thread(), t);
        }
        Check.due("none below 0", kit.tell(-1, 0), NONE);
        Check.due("the last", kit.tell(15, 0), 0);
        Check.due("none behind it", kit.tell(16, 0), NONE);
        Check.refused("a 17th thread", () -> Check.kit(16, 10, 0), Kit::thread, NONE);
        Check.due("the 16th", Check.kit(15, 10, 0).thread(), 15);
    }

    /** "THREADS (at most 16 ..": all of them can wait in one line, and the last can let all others go. */
    private static void allSixteenTakePart() {
        Kit kit = Check.kit(16, 10, 0);
        Check.script(kit, 15, 0, 0, 0, 0, 2, 0);
        for (int t = 0; t < 15; t++) {
            Check.script(kit, t, 0, 2, 0, 0, 2, 0);
        }
        Check.due("run", kit.run(9), 2);
        Check.line(kit, "all in one line", 0, 0, 1, 2, 3, 4, 5, 6, 7, 8, 9, 10, 11, 12, 13, 14, 15);
        Check.stuck(kit, "all are stuck", 0, 1, 2, 3, 4, 5, 6, 7, 8, 9, 10, 11, 12, 13, 14, 15);
        Kit last = Check.kit(16, 2, 1);
        for (int t = 0; t < 16; t++) {
            Check.script(last, t, 0, t < 15 ? 0 : 1, 0);
        }
        Check.due("run", last.run(9), 1);
        Check.passed(last, "the last lets all others go", 0, 15, 0, 1, 2, 3, 4, 5, 6, 7, 8, 9, 10, 11, 12, 13, 14);
        Check.stuck(last, "nobody is stuck");
    }

    private static Kit withSteps(int count) {
        Kit kit = Check.kit(2, 7, 0, 10, 0);
        for (int i = 1; i <= count; i++) {
            Check.due("step", kit.step(0, 0, 0, 0, 0), i);
        }
        return kit;
    }

    /** "a SCRIPT of at most 20 STEPS". */
    private static void twentySteps() {
        Check.due("the 20th", withSteps(19).step(0, 0, 0, 0, 0), 20);
        Check.refused("a 21st step", () -> withSteps(20), kit -> kit.step(0, 1, 2, 0, 0), NONE);
        Check.due("another thread's first", withSteps(20).step(1, 0, 0, 0, 0), 1);
        Kit kit = withSteps(20);
        Check.due("run", kit.run(5000), 20);
        Check.ended(kit, "the first", 0, 0, 0, 0, 1, 1);
        Check.ended(kit, "the 20th", 0, 19, 0, 19, 20, 20);
        Check.due("no 21st", kit.outcome(0, 20, 0), NONE);
    }

    /** "a SCRIPT of at most 20 STEPS": those that it did count too. */
    private static void twentyStepsThatAreDone() {
        Check.refused("a 21st behind 20 that are done", () -> {
            Kit kit = withSteps(20);
            kit.run(20);
            return kit;
        }, kit -> kit.step(0, 1, 2, 0, 0), NONE);
    }

    private static Kit gateAndPause() {
        Kit kit = Check.kit(2, 2, 1, 10, 0);
        Check.script(kit, 0, 0, 0, 0);
        Check.due("run", kit.run(5), 1);
        return kit;
    }

    /** "a patience (0: for ever, else 1 .. 1000 beats)": -1 and 1001 are none. */
    private static void patienceTooSmall() {
        int[] others = {Integer.MIN_VALUE, -1000, -1, 1001, Integer.MAX_VALUE};
        for (int patience : others) {
            Check.refused("patience " + patience, EdgesOfTerm1Test::gateAndPause,
                    kit -> kit.step(1, 0, 0, 0, patience), NONE);
        }
        int[] such = {0, 1, 999, 1000};
        for (int patience : such) {
            Check.due("patience " + patience, gateAndPause().step(1, 0, 0, 0, patience), 1);
        }
    }

    /** "0: for ever": nothing of it ever ends. */
    private static void patienceForEver() {
        Kit kit = Check.kit(2, 2, 1);
        kit.step(0, 0, 0, 0, 0);
        kit.interrupt(1, 5000);
        Check.due("run", kit.run(5000), 5000);
        Check.ended(kit, "it waits", 0, 0, 1, 0, 1, 0);
        Check.stuck(kit, "for ever", 0);
    }

    /** "1 .. 1000 beats": the least. */
    private static void patienceOfOneBeat() {
        Kit kit = Check.kit(2, 2, 1);
        kit.step(0, 0, 0, 0, 1);
        Check.due("run", kit.run(1), 1);
        Check.ended(kit, "it waits", 0, 0, 1, 0, 1, 0);
        Check.stuck(kit, "its patience can be over yet");
        Check.due("run", kit.run(5000), 2);
        Check.ended(kit, "one beat behind", 0, 0, 3, 0, 1, 2);
    }

    /** "1 .. 1000 beats": the most. */
    private static void patienceOfAThousandBeats() {
        Kit kit = Check.kit(2, 2, 1, 10, 0);
        Check.script(kit, 0, 1, 2, 0, 1, 2, 0);
        kit.step(0, 0, 0, 0, 1000);
        Check.due("run", kit.run(1002), 1002);
        Check.ended(kit, "999 beats behind", 0, 2, 1, 0, 3, 0);
        Check.due("run", kit.run(5000), 1003);
        Check.ended(kit, "a thousand beats behind", 0, 2, 3, 0, 3, 1003);
    }

    /** "1 .. 1000 beats": over in the last beat of all, or never. */
    private static void patienceUpToTheLastBeat() {
        for (int began = 4000; began <= 4001; began++) {
            Kit kit = Check.kit(2, 2, 1);
            kit.interrupt(1, began - 1);
            Check.due("run", kit.run(began - 1), began - 1);
            kit.step(0, 0, 0, 0, 1000);
            Check.due("run", kit.run(5000), 5000);
            boolean isOver = began == 4000;
            Check.ended(kit, "begun in " + began, 0, 0, isOver ? 3 : 1, 0, began, isOver ? 5000 : 0);
        }
    }

    private static Kit withDevices(int count) {
        Kit kit = new Kit();
        for (int d = 0; d < count; d++) {
            Check.due("device", kit.device(d % 12, d == 3 ? 1 : 0), d);
        }
        return kit;
    }

    /** "DEVICES (at most 12, from 0 on)". */
    private static void twelveDevices() {
        Check.due("no device yet", new Kit().state(0, 0), NONE);
        Check.due("the first", withDevices(0).device(2, 5), 0);
        Check.due("the 12th", withDevices(11).device(2, 5), 11);
        for (int kind = 0; kind < 12; kind++) {
            int such = kind;
            Check.refused("a 13th device", () -> withDevices(12), kit -> kit.device(such, such == 3 ? 1 : 0), NONE);
        }
        Kit kit = withDevices(12);
        Check.due("none below 0", kit.state(-1, 0), NONE);
        Check.due("the last", kit.state(11, 0), 11);
        Check.due("none behind it", kit.state(12, 0), NONE);
    }

    /** "DEVICES (at most 12 ..": each has a state of its own, the last one too. */
    private static void allTwelveAreApart() {
        Kit kit = new Kit();
        for (int d = 0; d < 12; d++) {
            Check.due("device", kit.device(0, d), d);
        }
        kit.thread();
        Check.script(kit, 0, 11, 1, 100, 0, 1, 1);
        Check.due("run", kit.run(9), 2);
        Check.state(kit, "the first", 0, 0, 0, 0, 1);
        Check.state(kit, "the last", 11, 0, 0, 0, 111);
        for (int d = 1; d < 11; d++) {
            Check.state(kit, "another one", d, 0, 0, 0, d);
        }
    }

    /** "of a KIND, 0 .. 11". */
    private static void twelveKinds() {
        int[] others = {Integer.MIN_VALUE, -12, -1, 12, 13, Integer.MAX_VALUE};
        for (int kind : others) {
            for (int n = 0; n < 2; n++) {
                int number = n;
                Check.refused("kind " + kind, EdgesOfTerm1Test::gateAndPause, kit -> kit.device(kind, number), NONE);
            }
        }
        Check.due("kind 0", gateAndPause().device(0, 0), 2);
        Check.due("kind 11", gateAndPause().device(11, 0), 2);
    }

    /** "BEATS are numbered from 1 on." */
    private static void beatsFromOneOn() {
        Kit kit = Check.kit(1, 10, 0, 10, 0);
        Check.script(kit, 0, 0, 2, 0);
        Check.due("beat 0 is there already", kit.interrupt(0, 0), false);
        Check.due("beat 0 is there already", kit.close(1, 0), false);
        Check.due("run", kit.run(0), 0);
        Check.ended(kit, "not begun in beat 0", 0, 0, 8, 0, 0, 0);
        Check.due("beat 1", kit.interrupt(0, 1), true);
        Check.due("beat 1", kit.close(1, 1), true);
        Check.due("run", kit.run(1), 1);
        Check.ended(kit, "begun in beat 1", 0, 0, 0, 0, 1, 1);
        Check.due("kept in beat 1", kit.tell(0, 3), 1);
        Check.due("closed in beat 1", kit.state(1, 2), 1);
    }
}
