/** Kind 9: a phaser whose parties come and go. */
public final class Kind09PhaserTest {
    public static void main(String[] args) {
        phases();
        joinForTheNextPhase();
        leaveMakesAPhase();
        oneThatGaveUpCameAllTheSame();
        keptInterrupt();
        oneFromTheNextPhaseOnLeaves();
        oneThatCameLeaves();
        Check.end("phaser");
    }

    private static void phases() {
        Kit kit = Check.kit(2, 9, 0);
        Check.script(kit, 0, 0, 1, 0, 0, 2, 0, 0, 0, 0, 0, 0, 0, 0, 1, 0, 0, 3, 0);
        kit.run(99);
        Check.ended(kit, "no party comes", 0, 0, 6, 0, 1, 1);
        Check.ended(kit, "no party leaves", 0, 1, 6, 0, 2, 2);
        Check.ended(kit, "join", 0, 2, 0, 0, 3, 3);
        Check.ended(kit, "is a party", 0, 3, 6, 0, 4, 4);
        Check.ended(kit, "all parties came", 0, 4, 0, 1, 5, 5);
        Check.ended(kit, "misuse", 0, 5, 6, 0, 6, 6);
        Check.due("phase", kit.state(0, 3), 1);
        Check.script(kit, 1, 0, 0, 0, 0, 1, 0);
        kit.run(99);
        Check.ended(kit, "nobody came in this phase: at once", 1, 0, 0, 1, 7, 7);
        Check.ended(kit, "it waits", 1, 1, 1, 0, 8, 0);
        Check.script(kit, 0, 0, 1, 0);
        kit.run(99);
        Check.ended(kit, "the last", 0, 6, 0, 2, 9, 9);
        Check.ended(kit, "the phase then", 1, 1, 0, 2, 8, 9);
        Check.passed(kit, "in order", 0, 0, 0, 1, 0, 1);
    }

    /** Threads 0 and 1 are parties, and 0 came in phase 0. */
    private static Kit oneCame(int threads, int patience) {
        Kit kit = Check.kit(threads, 9, 0);
        Check.script(kit, 0, 0, 0, 0);
        Check.script(kit, 1, 0, 0, 0);
        kit.step(0, 0, 1, 0, patience);
        kit.run(2);
        Check.line(kit, "one came", 0, 0);
        return kit;
    }

    private static void joinForTheNextPhase() {
        Kit kit = oneCame(3, 0);
        Check.script(kit, 2, 0, 0, 0, 0, 1, 0, 0, 0, 0);
        kit.run(5);
        Check.ended(kit, "join", 2, 0, 0, 0, 3, 3);
        Check.ended(kit, "no party yet", 2, 1, 6, 0, 4, 4);
        Check.ended(kit, "joined already", 2, 2, 6, 0, 5, 5);
        Check.due("parties", kit.state(0, 4), 2);
        Check.script(kit, 1, 0, 1, 0);
        kit.run(6);
        Check.due("a new phase", kit.state(0, 3), 1);
        Check.due("parties", kit.state(0, 4), 3);
        Check.script(kit, 2, 0, 1, 0);
        kit.run(7);
        Check.ended(kit, "now it comes", 2, 3, 1, 0, 7, 0);
    }

    private static void leaveMakesAPhase() {
        Kit kit = oneCame(3, 0);
        Check.script(kit, 2, 0, 0, 0);
        kit.run(3);
        Check.script(kit, 1, 0, 2, 0);
        kit.run(4);
        Check.ended(kit, "the phase then", 1, 1, 0, 1, 4, 4);
        Check.ended(kit, "let go", 0, 1, 0, 1, 2, 4);
        Check.due("parties: it left, the one that joined is one", kit.state(0, 4), 2);
        Check.passed(kit, "the one that left is ahead", 0, 0, 1, 2, 1, 0);
        Check.script(kit, 0, 0, 2, 0);
        Check.script(kit, 2, 0, 2, 0, 0, 2, 0, 0, 0, 0);
        kit.run(9);
        Check.ended(kit, "nobody came: no new phase", 0, 2, 0, 1, 5, 5);
        Check.ended(kit, "no party is left: no new phase", 2, 1, 0, 1, 5, 5);
        Check.ended(kit, "it is none any more", 2, 2, 6, 0, 6, 6);
        Check.ended(kit, "and may join again", 2, 3, 0, 1, 7, 7);
        Check.due("parties", kit.state(0, 4), 1);
    }

    private static void oneThatGaveUpCameAllTheSame() {
        Kit kit = oneCame(2, 2);
        Check.script(kit, 0, 0, 1, 0);
        kit.run(5);
        Check.ended(kit, "its patience is over", 0, 1, 3, 0, 2, 4);
        Check.ended(kit, "came in this phase", 0, 2, 6, 0, 5, 5);
        Check.script(kit, 1, 0, 1, 0);
        kit.run(6);
        Check.ended(kit, "all came", 1, 1, 0, 1, 6, 6);
        Check.script(kit, 0, 0, 1, 0);
        kit.run(7);
        Check.ended(kit, "in the new phase it comes again", 0, 3, 1, 0, 7, 0);
    }

    private static void keptInterrupt() {
        Kit kit = Check.kit(2, 9, 0);
        Check.script(kit, 0, 0, 0, 0, 0, 1, 0);
        Check.script(kit, 1, 0, 0, 0, 0, 0, 0, 0, 1, 0);
        kit.interrupt(0, 1);
        kit.run(9);
        Check.ended(kit, "as if it had begun to wait", 0, 1, 2, 0, 2, 2);
        Check.ended(kit, "it came all the same", 1, 2, 0, 1, 3, 3);
    }

    private static void oneFromTheNextPhaseOnLeaves() {
        Kit kit = oneCame(3, 0);
        Check.script(kit, 2, 0, 0, 0, 0, 2, 0, 0, 2, 0);
        kit.run(5);
        Check.ended(kit, "one here", 2, 1, 0, 0, 4, 4);
        Check.ended(kit, "none any more", 2, 2, 6, 0, 5, 5);
        Check.line(kit, "no new phase", 0, 0);
        Check.script(kit, 1, 0, 1, 0);
        kit.run(6);
        Check.due("parties", kit.state(0, 4), 2);
    }

    private static void oneThatCameLeaves() {
        Kit kit = oneCame(2, 1);
        Check.script(kit, 0, 0, 2, 0, 0, 0, 0, 0, 1, 0);
        kit.run(9);
        Check.ended(kit, "the other one did not come", 0, 2, 0, 0, 4, 4);
        Check.ended(kit, "no party came: one at once", 0, 3, 0, 0, 5, 5);
        Check.ended(kit, "and it may come", 0, 4, 1, 0, 6, 0);
        Check.due("parties", kit.state(0, 4), 2);
    }
}
