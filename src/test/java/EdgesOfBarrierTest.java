/** The edges of kind 3, a barrier that may break. */
public final class EdgesOfBarrierTest {
    public static void main(String[] args) {
        onePartyAndSixteen();
        theNthAndTheOneAheadOfIt();
        roundAfterRound();
        brokenForThoseThatCome();
        brokenForOneWithAnInterrupt();
        anewWithNobody();
        anewWithALine();
        anewWhenItIsBroken();
        askOfBoth();
        brokenWithoutOthers();
        brokenWithOthers();
        notBrokenByOtherEnds();
        Check.end("edges of the barrier");
    }

    /** Threads that come once each, all in beat 1. */
    private static Kit thatCome(int threads, int n, int coming) {
        Kit kit = Check.kit(threads, 3, n);
        for (int t = 0; t < coming; t++) {
            Check.script(kit, t, 0, 0, 0);
        }
        kit.run(1);
        return kit;
    }

    /** "n parties (1 .. 16)". */
    private static void onePartyAndSixteen() {
        Kit one = thatCome(1, 1, 1);
        Check.ended(one, "the first is the last", 0, 0, 0, 0, 1, 1);
        Kit most = thatCome(16, 16, 16);
        for (int t = 0; t < 16; t++) {
            Check.ended(most, "sixteen", t, 0, 0, t, 1, 1);
        }
        Check.state(most, "nobody waits", 0, 3, 0, 0, 0, 0);
    }

    /** "VALUE: how many WAIT already; if it is the n-th all PASS, else it WAITS." */
    private static void theNthAndTheOneAheadOfIt() {
        for (int n = 2; n <= 16; n += 7) {
            Kit kit = thatCome(n, n, n - 1);
            Check.state(kit, "one is missing", 0, 3, n - 1, 0, n - 1, 0);
            Check.ended(kit, "the (n - 1)-th waits", n - 2, 0, 1, 0, 1, 0);
            Check.script(kit, n - 1, 0, 0, 0);
            Check.due("run", kit.run(9), 2);
            Check.state(kit, "none is missing", 0, 3, 0, 0, 0, 0);
            Check.ended(kit, "the first", 0, 0, 0, 0, 1, 2);
            Check.ended(kit, "the (n - 1)-th", n - 2, 0, 0, n - 2, 1, 2);
            Check.ended(kit, "the n-th", n - 1, 0, 0, n - 1, 2, 2);
        }
    }

    /** "how many WAIT already": from 0 on again in each round. */
    private static void roundAfterRound() {
        Kit kit = Check.kit(2, 3, 2);
        for (int round = 0; round < 20; round++) {
            kit.step(0, 0, 0, 0, 0);
            kit.step(1, 0, 0, 0, 0);
        }
        Check.due("run", kit.run(50), 20);
        for (int round = 0; round < 20; round++) {
            Check.ended(kit, "the first", 0, round, 0, 0, round + 1, round + 1);
            Check.ended(kit, "the last", 1, round, 0, 1, round + 1, round + 1);
        }
    }

    /** "0 come: 5 if it is broken": even the one that would be the last; and it does not wait. */
    private static void brokenForThoseThatCome() {
        Kit kit = thatCome(3, 2, 1);
        kit.interrupt(0, 2);
        Check.script(kit, 1, 0, 0, 0);
        Check.script(kit, 2, 0, 0, 0);
        Check.due("run", kit.run(9), 2);
        Check.ended(kit, "interrupted", 0, 0, 2, 0, 1, 2);
        Check.ended(kit, "broken", 1, 0, 5, 0, 2, 2);
        Check.ended(kit, "broken", 2, 0, 5, 0, 2, 2);
        Check.state(kit, "nobody waits", 0, 3, 0, 0, 0, 1);
    }

    /** "0 come: 5 if it is broken": so it would not wait, and an interrupt is still kept for it. */
    private static void brokenForOneWithAnInterrupt() {
        Kit kit = thatCome(2, 2, 1);
        kit.interrupt(0, 2);
        kit.interrupt(1, 3);
        Check.due("run", kit.run(9), 3);
        Check.due("broken", Check.then(kit, 1, 0, 0), 5);
        Check.due("kept", kit.tell(1, 3), 1);
        Check.due("anew", Check.then(kit, 1, 1, 0), 0);
        Check.due("now it would wait", Check.then(kit, 1, 0, 0), 2);
        Check.due("used", kit.tell(1, 3), 0);
        Check.state(kit, "and is broken", 0, 3, 0, 0, 0, 1);
    }

    /** "1 anew: those that WAIT: 5": if nobody does. */
    private static void anewWithNobody() {
        Kit kit = Check.kit(2, 3, 2);
        Check.script(kit, 0, 0, 1, 0, 0, 2, 0, 0, 0, 0);
        Check.script(kit, 1, 0, 2, 0, 0, 2, 0, 0, 2, 0, 0, 0, 0);
        Check.due("run", kit.run(9), 4);
        Check.outcomes(kit, "anew, ask, come", 0, 0, 0, 0);
        Check.values(kit, "anew, ask, come", 0, 0, 0, 0);
    }

    /** "1 anew: those that WAIT: 5; it is not broken then." */
    private static void anewWithALine() {
        Kit kit = thatCome(4, 4, 3);
        Check.script(kit, 3, 0, 1, 0, 0, 0, 0);
        Check.due("run", kit.run(9), 3);
        for (int t = 0; t < 3; t++) {
            Check.ended(kit, "all that wait", t, 0, 5, 0, 1, 2);
        }
        Check.ended(kit, "the first of a new round", 3, 1, 1, 0, 3, 0);
        Check.state(kit, "not broken", 0, 3, 1, 0, 1, 0);
        Check.passed(kit, "the one that began anew", 0, 3);
    }

    /** "it is not broken then": ahead of it come is 5, behind it come waits. */
    private static void anewWhenItIsBroken() {
        Kit kit = Check.kit(1, 3, 2);
        kit.step(0, 0, 0, 0, 1);
        Check.script(kit, 0, 0, 0, 0, 0, 1, 0, 0, 0, 0);
        Check.due("run", kit.run(9), 5);
        Check.outcomes(kit, "patience, broken, anew, waits", 0, 3, 5, 0, 1);
        Check.due("not broken", kit.state(0, 4), 0);
    }

    /** "2 ask: VALUE 1 if it is broken, else 0." */
    private static void askOfBoth() {
        Kit kit = Check.kit(2, 3, 2);
        kit.step(0, 0, 0, 0, 2);
        Check.script(kit, 1, 0, 2, 0, 0, 2, 0, 0, 2, 0, 0, 1, 0, 0, 2, 0);
        Check.due("run", kit.run(9), 5);
        Check.values(kit, "from the beat on in which it breaks", 1, 0, 0, 1, 0, 0);
        Check.outcomes(kit, "asking passes", 1, 0, 0, 0, 0, 0);
    }

    /** "If one that WAITS is interrupted, or its patience is over, it is broken": the only one. */
    private static void brokenWithoutOthers() {
        Kit interrupted = thatCome(1, 2, 1);
        interrupted.interrupt(0, 3);
        Check.due("run", interrupted.run(2), 1 + 1);
        Check.due("not yet", interrupted.state(0, 4), 0);
        Check.due("run", interrupted.run(9), 3);
        Check.state(interrupted, "broken", 0, 3, 0, 0, 0, 1);
        Kit impatient = Check.kit(1, 3, 2);
        impatient.step(0, 0, 0, 0, 1);
        Check.due("run", impatient.run(9), 2);
        Check.state(impatient, "broken", 0, 3, 0, 0, 0, 1);
        Kit kept = Check.kit(1, 3, 2);
        kept.interrupt(0, 1);
        Check.script(kept, 0, 0, 0, 0);
        Check.due("run", kept.run(9), 1);
        Check.ended(kept, "as if it had begun to wait", 0, 0, 2, 0, 1, 1);
        Check.state(kept, "broken", 0, 3, 0, 0, 0, 1);
    }

    /** "and all others that WAIT: 5": ahead of it and behind it. */
    private static void brokenWithOthers() {
        Kit kit = thatCome(16, 16, 15);
        kit.interrupt(7, 2);
        Check.due("run", kit.run(9), 2);
        for (int t = 0; t < 15; t++) {
            Check.ended(kit, "broken", t, 0, t == 7 ? 2 : 5, 0, 1, 2);
        }
        Check.passed(kit, "nobody", 0);
    }

    /** "If one that WAITS is interrupted": not one that is the last, nor one that waits no more; nor by a closing. */
    private static void notBrokenByOtherEnds() {
        Kit last = thatCome(2, 2, 1);
        last.interrupt(1, 2);
        Check.script(last, 1, 0, 0, 0);
        Check.due("run", last.run(9), 2);
        Check.ended(last, "the last does not wait", 1, 0, 0, 1, 2, 2);
        last.interrupt(0, 3);
        Check.due("run", last.run(9), 3);
        Check.due("not broken", last.state(0, 4), 0);
        Kit closed = thatCome(2, 2, 1);
        closed.close(0, 2);
        Check.due("run", closed.run(9), 2);
        Check.state(closed, "closed, not broken", 0, 3, 0, 1, 0, 0);
    }
}
