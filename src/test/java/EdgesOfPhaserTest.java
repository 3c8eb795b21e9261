/** The edges of kind 9, a phaser whose parties come and go. */
public final class EdgesOfPhaserTest {
    private static final int JOIN = 0;
    private static final int COME = 1;
    private static final int LEAVE = 2;

    public static void main(String[] args) {
        joinOfAParty();
        joinOfOneFromTheNextPhaseOn();
        joinWhenNobodyCame();
        joinWhenOneCame();
        joinBehindANewPhase();
        comeOfNoParty();
        comeOfOneFromTheNextPhaseOn();
        comeOfOneThatCame();
        comeAlone();
        comeOfTheLastOfSixteen();
        leaveOfNoParty();
        leaveOfOneFromTheNextPhaseOn();
        leaveOfTheLastParty();
        leaveOfOneThatCame();
        leaveWhenAllOthersCame();
        leaveWhenNobodyWaits();
        leaveWhenOneDidNotCome();
        newPhase();
        newPhaseForTheLastThread();
        oneThatWaitsNoMoreCame();
        Check.end("edges of the phaser");
    }

    private static int then(Kit kit, int thread, int act) {
        return Check.then(kit, thread, act, 0);
    }

    private static void phaserIs(Kit kit, String what, int waiting, int phase, int parties) {
        Check.state(kit, what, 0, 9, waiting, 0, phase, parties);
    }

    private static Kit withParties(int threads, int parties) {
        Kit kit = Check.kit(threads, 9, 0);
        for (int t = 0; t < parties; t++) {
            Check.script(kit, t, 0, JOIN, 0);
        }
        kit.run(1);
        phaserIs(kit, "parties", 0, 0, parties);
        return kit;
    }

    /** Threads 0 and 1 are parties, 0 came; thread 2 is a party from the next phase on. */
    private static Kit oneJoinedLate() {
        Kit kit = withParties(4, 2);
        Check.due("it comes", then(kit, 0, COME), 1);
        Check.due("it joins", then(kit, 2, JOIN), 0);
        return kit;
    }

    /** "0 join: 6 if it is a party". */
    private static void joinOfAParty() {
        Kit kit = withParties(2, 1);
        Check.due("a party", then(kit, 0, JOIN), 6);
        phaserIs(kit, "one party", 0, 0, 1);
        Check.due("no party", then(kit, 1, JOIN), 0);
        Check.due("it leaves", then(kit, 0, LEAVE), 0);
        Check.due("no party any more", then(kit, 0, JOIN), 0);
        phaserIs(kit, "two parties", 0, 0, 2);
    }

    /** "6 if it is a party": from the next phase on is one too. */
    private static void joinOfOneFromTheNextPhaseOn() {
        Kit kit = oneJoinedLate();
        Check.due("joined already", then(kit, 2, JOIN), 6);
        Check.due("the last comes", then(kit, 1, COME), 0);
        phaserIs(kit, "one party more", 0, 1, 3);
    }

    /** "a party, from the next phase on if some party came in this one, else at once; VALUE: the phase." */
    private static void joinWhenNobodyCame() {
        Kit kit = withParties(2, 1);
        Check.due("it joins", then(kit, 1, JOIN), 0);
        Check.due("the phase", Check.lastValue(kit, 1), 0);
        phaserIs(kit, "at once", 0, 0, 2);
    }

    /** "from the next phase on if some party came in this one". */
    private static void joinWhenOneCame() {
        Kit kit = oneJoinedLate();
        Check.due("the phase", Check.lastValue(kit, 2), 0);
        phaserIs(kit, "not at once", 1, 0, 2);
        Check.due("the last comes", then(kit, 1, COME), 0);
        phaserIs(kit, "from the next phase on", 0, 1, 3);
    }

    /** "else at once": in a new phase nobody came yet. */
    private static void joinBehindANewPhase() {
        Kit kit = withParties(2, 1);
        Check.due("it comes", then(kit, 0, COME), 0);
        Check.due("another one joins", then(kit, 1, JOIN), 0);
        Check.due("the phase", Check.lastValue(kit, 1), 1);
        phaserIs(kit, "at once", 0, 1, 2);
    }

    /** "1 come: 6 if it is no party yet": never joined, or left. */
    private static void comeOfNoParty() {
        Kit kit = withParties(2, 1);
        Check.due("never joined", then(kit, 1, COME), 6);
        phaserIs(kit, "no new phase", 0, 0, 1);
        Check.due("it leaves", then(kit, 0, LEAVE), 0);
        Check.due("left", then(kit, 0, COME), 6);
        phaserIs(kit, "no new phase", 0, 0, 0);
    }

    /** "6 if it is no party yet": from the next phase on is none yet. */
    private static void comeOfOneFromTheNextPhaseOn() {
        Kit kit = oneJoinedLate();
        Check.due("not yet", then(kit, 2, COME), 6);
        phaserIs(kit, "one still waits", 1, 0, 2);
        Check.due("the last comes", then(kit, 1, COME), 0);
        Check.due("now it is one", then(kit, 2, COME), 1);
    }

    /** "6 if .. came in this phase": and in the next one it may come again. */
    private static void comeOfOneThatCame() {
        Kit kit = withParties(2, 2);
        kit.step(0, 0, COME, 0, 1);
        Check.due("run", kit.run(100), 3);
        Check.due("came", then(kit, 0, COME), 6);
        Check.due("the last comes", then(kit, 1, COME), 0);
        phaserIs(kit, "a new phase", 0, 1, 2);
        Check.due("in the next phase", then(kit, 0, COME), 1);
    }

    /** "if all parties came the phase is one more .. and it PASSES": the only one; "VALUE: the phase then". */
    private static void comeAlone() {
        Kit kit = withParties(1, 1);
        for (int phase = 1; phase < 20; phase++) {
            Check.due("it passes", then(kit, 0, COME), 0);
            Check.due("the phase then", Check.lastValue(kit, 0), phase);
        }
        phaserIs(kit, "phases", 0, 19, 1);
    }

    /** "if all parties came .. all that WAIT are let go, and it PASSES; else it WAITS": the 15th and the 16th. */
    private static void comeOfTheLastOfSixteen() {
        Kit kit = withParties(16, 16);
        for (int t = 0; t < 15; t++) {
            Check.script(kit, t, 0, COME, 0);
        }
        Check.due("run", kit.run(100), 2);
        Check.ended(kit, "the 15th waits", 14, 1, 1, 0, 2, 0);
        phaserIs(kit, "one is missing", 15, 0, 16);
        Check.due("the 16th", then(kit, 15, COME), 0);
        phaserIs(kit, "a new phase", 0, 1, 16);
        for (int t = 0; t < 15; t++) {
            Check.ended(kit, "the phase then", t, 1, 0, 1, 2, 3);
        }
        Check.due("the last is ahead", kit.passed(0, 16), 15);
        Check.due("of the first", kit.passed(0, 17), 0);
    }

    /** "2 leave: 6 if it is no party". */
    private static void leaveOfNoParty() {
        Kit kit = withParties(2, 1);
        Check.due("never joined", then(kit, 1, LEAVE), 6);
        phaserIs(kit, "as it was", 0, 0, 1);
        Check.due("a party", then(kit, 0, LEAVE), 0);
        Check.due("left", then(kit, 0, LEAVE), 6);
    }

    /** "(one from the next phase on is one here); it is none any more". */
    private static void leaveOfOneFromTheNextPhaseOn() {
        Kit kit = oneJoinedLate();
        Check.due("it leaves", then(kit, 2, LEAVE), 0);
        Check.due("the phase", Check.lastValue(kit, 2), 0);
        Check.due("it is none any more", then(kit, 2, LEAVE), 6);
        phaserIs(kit, "one still waits", 1, 0, 2);
        Check.due("the last comes", then(kit, 1, COME), 0);
        phaserIs(kit, "no party more", 0, 1, 2);
    }

    /** "if there is a party left, and all came": if there is none, the phase stays. */
    private static void leaveOfTheLastParty() {
        Kit kit = withParties(1, 1);
        Check.due("it comes", then(kit, 0, COME), 0);
        Check.due("it leaves", then(kit, 0, LEAVE), 0);
        Check.due("the phase", Check.lastValue(kit, 0), 1);
        phaserIs(kit, "nobody is left", 0, 1, 0);
    }

    /** "it is none any more": nor does its coming count; it joins at once, and may come anew. */
    private static void leaveOfOneThatCame() {
        Kit kit = withParties(2, 2);
        kit.step(0, 0, COME, 0, 1);
        Check.due("run", kit.run(100), 3);
        Check.due("it leaves", then(kit, 0, LEAVE), 0);
        phaserIs(kit, "the other one did not come", 0, 0, 1);
        Check.due("it joins", then(kit, 0, JOIN), 0);
        phaserIs(kit, "at once", 0, 0, 2);
        Check.due("it comes anew", then(kit, 0, COME), 1);
    }

    /** "if there is a party left, and all came, the phase is one more as above; VALUE: the phase then." */
    private static void leaveWhenAllOthersCame() {
        Kit kit = withParties(3, 3);
        Check.due("it comes", then(kit, 0, COME), 1);
        Check.due("it comes", then(kit, 1, COME), 1);
        Check.due("the last leaves", then(kit, 2, LEAVE), 0);
        Check.due("the phase then", Check.lastValue(kit, 2), 1);
        phaserIs(kit, "a new phase", 0, 1, 2);
        Check.values(kit, "let go with the phase then", 0, 0, 1);
        Check.values(kit, "let go with the phase then", 1, 0, 1);
        Check.passed(kit, "the one that left is ahead", 0, 0, 1, 2, 2, 0, 1);
    }

    /** "if there is a party left, and all came": though the one that came waits no more. */
    private static void leaveWhenNobodyWaits() {
        Kit kit = withParties(2, 2);
        kit.step(0, 0, COME, 0, 1);
        Check.due("run", kit.run(100), 3);
        Check.due("the other one leaves", then(kit, 1, LEAVE), 0);
        Check.due("the phase then", Check.lastValue(kit, 1), 1);
        phaserIs(kit, "a new phase", 0, 1, 1);
        Check.due("nobody came in this one", then(kit, 0, COME), 0);
        Check.due("the phase then", Check.lastValue(kit, 0), 2);
    }

    /** "A new phase: nobody came, those that joined are parties": the last thread too. */
    private static void newPhaseForTheLastThread() {
        Kit kit = withParties(16, 2);
        Check.due("it comes", then(kit, 0, COME), 1);
        Check.due("the last thread joins", then(kit, 15, JOIN), 0);
        Check.due("the phase is full", then(kit, 1, COME), 0);
        phaserIs(kit, "it is a party", 0, 1, 3);
        for (int phase = 2; phase < 4; phase++) {
            Check.due("it comes", then(kit, 15, COME), 1);
            Check.due("it comes", then(kit, 0, COME), 1);
            Check.due("the phase is full", then(kit, 1, COME), 0);
            Check.due("the phase then", Check.lastValue(kit, 15), phase);
        }
    }

    /** "and all came": one did not. */
    private static void leaveWhenOneDidNotCome() {
        Kit kit = withParties(3, 3);
        Check.due("it comes", then(kit, 0, COME), 1);
        Check.due("another one leaves", then(kit, 1, LEAVE), 0);
        Check.due("the phase", Check.lastValue(kit, 1), 0);
        phaserIs(kit, "one is missing", 1, 0, 2);
        Kit nobody = withParties(2, 2);
        Check.due("it leaves", then(nobody, 0, LEAVE), 0);
        phaserIs(nobody, "nobody came", 0, 0, 1);
    }

    /** "A new phase: nobody came, those that joined are parties." */
    private static void newPhase() {
        Kit kit = oneJoinedLate();
        Check.due("the last comes", then(kit, 1, COME), 0);
        for (int t = 0; t < 2; t++) {
            Check.due("it comes again", then(kit, t, COME), 1);
        }
        phaserIs(kit, "two wait for the one that joined", 2, 1, 3);
        Check.due("it comes", then(kit, 2, COME), 0);
        phaserIs(kit, "the next phase", 0, 2, 3);
        Check.due("the phase then", Check.lastValue(kit, 2), 2);
    }

    /** "(One that came and WAITS no more, by 2 or 3, came all the same.)" */
    private static void oneThatWaitsNoMoreCame() {
        for (int outcome = 2; outcome <= 3; outcome++) {
            Kit kit = withParties(3, 2);
            kit.step(0, 0, COME, 0, outcome == 2 ? 0 : 1);
            kit.interrupt(outcome == 2 ? 0 : 2, 3);
            Check.due("run", kit.run(100), 3);
            Check.ended(kit, "it waits no more", 0, 1, outcome, 0, 2, 3);
            Check.due("one more joins", then(kit, 2, JOIN), 0);
            phaserIs(kit, "from the next phase on, for one came", 0, 0, 2);
            Check.due("the other one is the last", then(kit, 1, COME), 0);
            phaserIs(kit, "a new phase", 0, 1, 3);
        }
    }
}
