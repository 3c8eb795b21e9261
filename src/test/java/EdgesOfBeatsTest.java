/** The edges of term 1, second part: what comes first in a beat, whose patience is over, who is let go. */
public final class EdgesOfBeatsTest {
    private static final int NONE = MeetingKit.NONE;

    public static void main(String[] args) {
        interruptsByThreads();
        interruptsAheadOfClosings();
        interruptsAheadOfSteps();
        closingsAheadOfPatience();
        closingsAheadOfSteps();
        patienceByThreads();
        patienceAheadOfSteps();
        patienceOneBeatShort();
        patienceSinceTheStepBegan();
        stepsByThreads();
        letGoFromAnEarlierStep();
        letGoFromAStepOfThisBeat();
        brokenIsLetGo();
        doneAtOnce();
        valueOfOthersThanPassed();
        interruptedWaitsNoMore();
        interruptOfOneThatDoesNotWait();
        interruptKeptThroughStepsThatDoNotWait();
        interruptKeptWhereEachKindPassesAtOnce();
        interruptKeptThoughOthersWait();
        interruptUsedWhereEachKindWouldWait();
        oneInterruptIsKept();
        interruptOfOneLetGoInThatBeat();
        closedWithALine();
        closedWithoutALine();
        closedForLaterSteps();
        closingChangesNothingElse();
        whoEndedSoIsLetGo();
        lineInTheOrderOfBeginning();
        othersLetGoUntilNobodyIs();
        Check.end("edges of beats");
    }

    /** Threads 0, 1 .. wait for ever, each with its number to take, at permits of which there are none. */
    private static Kit takers(int kind, int... numbers) {
        Kit kit = Check.kit(numbers.length, kind, 0);
        for (int t = 0; t < numbers.length; t++) {
            Check.script(kit, t, 0, 0, numbers[t]);
        }
        Check.due("all wait", kit.run(1), 1);
        return kit;
    }

    /** "interrupts that are planned for it, by THREADS": the first breaks the barrier ahead of the second's. */
    private static void interruptsByThreads() {
        Kit kit = Check.kit(16, 3, 16);
        Check.script(kit, 14, 0, 0, 0);
        Check.script(kit, 15, 0, 0, 0);
        Check.due("the last thread", kit.interrupt(15, 3), true);
        Check.due("the one ahead of it", kit.interrupt(14, 3), true);
        Check.due("run", kit.run(9), 3);
        Check.ended(kit, "interrupted", 14, 0, 2, 0, 1, 3);
        Check.ended(kit, "broken", 15, 0, 5, 0, 1, 3);
        Check.due("its interrupt is used up", kit.tell(14, 3), 0);
        Check.due("the other one's is kept", kit.tell(15, 3), 1);
    }

    /** "interrupts ..; closings": one beat apart, and in the same beat. */
    private static void interruptsAheadOfClosings() {
        int[] closings = {2, 3, 4};
        int[] outcomes = {4, 2, 2};
        for (int c = 0; c < 3; c++) {
            Kit kit = takers(0, 1);
            Check.due("close", kit.close(0, closings[c]), true);
            Check.due("interrupt", kit.interrupt(0, 3), true);
            Check.due("run", kit.run(3), 3);
            Check.ended(kit, "closing in beat " + closings[c], 0, 0, outcomes[c], 0, 1, Math.min(3, closings[c]));
            Check.due("kept if it waits no more", kit.tell(0, 3), outcomes[c] == 4 ? 1 : 0);
        }
    }

    /** "interrupts ..; then each THREAD": a step that begins in the interrupt's beat is interrupted. */
    private static void interruptsAheadOfSteps() {
        int[] outcomes = {2, 2, 1};
        for (int beat = 1; beat <= 3; beat++) {
            Kit kit = Check.kit(1, 10, 0, 2, 1);
            Check.script(kit, 0, 0, 2, 0, 1, 0, 0);
            Check.due("interrupt", kit.interrupt(0, beat), true);
            Check.due("run", kit.run(2), 2);
            Check.ended(kit, "interrupt in beat " + beat, 0, 1, outcomes[beat - 1], 0, 2, beat == 3 ? 0 : 2);
        }
    }

    /** "closings ..; those whose patience is over": one beat apart, and in the same beat. */
    private static void closingsAheadOfPatience() {
        int[] outcomes = {3, 4, 4};
        for (int patience = 1; patience <= 3; patience++) {
            Kit kit = Check.kit(1, 2, 1);
            kit.step(0, 0, 0, 0, patience);
            Check.due("close", kit.close(0, 3), true);
            Check.due("run", kit.run(9), 3);
            Check.ended(kit, "patience " + patience, 0, 0, outcomes[patience - 1], 0, 1, patience == 1 ? 2 : 3);
        }
    }

    /** "closings, by DEVICES; .. then each THREAD": a step that begins in the closing's beat is closed. */
    private static void closingsAheadOfSteps() {
        int[] outcomes = {4, 4, 0};
        for (int beat = 1; beat <= 3; beat++) {
            Kit kit = Check.kit(1, 10, 0, 10, 0);
            Check.script(kit, 0, 0, 2, 0, 1, 2, 0);
            Check.due("close", kit.close(1, beat), true);
            Check.due("run", kit.run(2), 2);
            Check.ended(kit, "closing in beat " + beat, 0, 1, outcomes[beat - 1], 0, 2, 2);
        }
    }

    /** "those whose patience is over .., by THREADS": the line's order does not count. */
    private static void patienceByThreads() {
        Kit kit = Check.kit(3, 3, 3, 10, 0);
        Check.script(kit, 0, 1, 2, 0);
        kit.step(0, 0, 0, 0, 3);
        kit.step(1, 0, 0, 0, 4);
        Check.due("run", kit.run(4), 4);
        Check.line(kit, "thread 1 is the first in line", 0, 1, 0);
        Check.due("run", kit.run(9), 5);
        Check.ended(kit, "thread 0 comes first", 0, 1, 3, 0, 2, 5);
        Check.ended(kit, "and breaks it for thread 1", 1, 0, 5, 0, 1, 5);
    }

    /** "those whose patience is over ..; then each THREAD": let go one beat ahead of its end, or in the end's beat. */
    private static void patienceAheadOfSteps() {
        for (int patience = 2; patience <= 3; patience++) {
            Kit kit = Check.kit(2, 2, 1, 10, 0);
            Check.script(kit, 0, 1, 2, 0, 1, 2, 0, 0, 1, 0);
            kit.step(1, 0, 0, 0, patience);
            Check.due("run", kit.run(9), 3);
            Check.ended(kit, "patience " + patience, 1, 0, patience == 2 ? 3 : 0, 0, 1, 3);
        }
    }

    /** "as many beats as told were begun since the one in which the STEP began". */
    private static void patienceOneBeatShort() {
        int[] patiences = {1, 2, 17, 999, 1000};
        for (int patience : patiences) {
            Kit kit = Check.kit(1, 2, 1, 10, 0);
            Check.script(kit, 0, 1, 2, 0);
            kit.step(0, 0, 0, 0, patience);
            Check.due("run", kit.run(2 + patience - 1), 2 + patience - 1);
            Check.ended(kit, "one beat short of " + patience, 0, 1, 1, 0, 2, 0);
            Check.due("run", kit.run(2 + patience), 2 + patience);
            Check.ended(kit, patience + " beats", 0, 1, 3, 0, 2, 2 + patience);
        }
    }

    /** "since the one in which the STEP began": one that was woken has no new patience. */
    private static void patienceSinceTheStepBegan() {
        Kit kit = Check.kit(2, 11, 0, 10, 0);
        Check.script(kit, 0, 0, 0, 0);
        kit.step(0, 0, 2, 1, 5);
        Check.script(kit, 1, 1, 2, 0, 1, 2, 0, 0, 0, 0, 0, 3, 1);
        Check.due("run", kit.run(6), 6);
        Check.ended(kit, "woken", 1, 3, 0, 1, 4, 4);
        Check.ended(kit, "it waits to enter", 0, 1, 1, 0, 2, 0);
        Check.due("run", kit.run(5000), 7);
        Check.ended(kit, "five beats since its step began", 0, 1, 3, 0, 2, 7);
    }

    /** "then each THREAD, by number, that waits nowhere, has a STEP left": from thread 0 to thread 15. */
    private static void stepsByThreads() {
        Kit kit = Check.kit(16, 7, 0);
        for (int t = 15; t >= 0; t--) {
            if (t != 7) {
                Check.script(kit, t, 0, 0, 0);
            }
        }
        Check.due("run", kit.run(9), 1);
        Check.passed(kit, "by number, but for the one without a step", 0, 0, 1, 2, 3, 4, 5, 6, 8, 9, 10, 11, 12, 13, 14, 15);
        Check.due("that one began none", kit.tell(7, 1), 0);
    }

    /** "was not let go in this beat (from a STEP that began in an earlier one)". */
    private static void letGoFromAnEarlierStep() {
        Kit kit = Check.kit(2, 2, 1, 10, 0);
        Check.script(kit, 0, 1, 2, 0, 0, 1, 0);
        Check.script(kit, 1, 0, 0, 0, 1, 2, 0);
        Check.due("run", kit.run(2), 2);
        Check.ended(kit, "let go by one of a smaller number", 1, 0, 0, 0, 1, 2);
        Check.ended(kit, "so its next one is not begun", 1, 1, 8, 0, 0, 0);
        Check.due("run", kit.run(9), 3);
        Check.ended(kit, "but in the next beat", 1, 1, 0, 0, 3, 3);
    }

    /** "One that .. is let go, has its next one in the next beat at the earliest": begun and let go in one beat. */
    private static void letGoFromAStepOfThisBeat() {
        Kit kit = Check.kit(3, 2, 1, 10, 0);
        Check.script(kit, 0, 0, 0, 0, 1, 2, 0);
        Check.script(kit, 1, 0, 1, 0, 1, 2, 0);
        Check.due("run", kit.run(1), 1);
        Check.ended(kit, "begun and let go", 0, 0, 0, 0, 1, 1);
        Check.ended(kit, "not in this beat", 0, 1, 8, 0, 0, 0);
        Check.due("run", kit.run(9), 2);
        Check.ended(kit, "in the next", 0, 1, 0, 0, 2, 2);
        Check.ended(kit, "in the next", 1, 1, 0, 0, 2, 2);
    }

    /** "or is let go, has its next one in the next beat": one that ends with 5 too. */
    private static void brokenIsLetGo() {
        Kit kit = Check.kit(2, 3, 3, 10, 0);
        Check.script(kit, 0, 0, 0, 0, 1, 2, 0);
        Check.script(kit, 1, 0, 0, 0, 1, 2, 0);
        kit.interrupt(0, 2);
        Check.due("run", kit.run(2), 2);
        Check.ended(kit, "broken", 1, 0, 5, 0, 1, 2);
        Check.ended(kit, "not in this beat", 1, 1, 8, 0, 0, 0);
        Check.due("run", kit.run(9), 3);
        Check.ended(kit, "in the next", 1, 1, 0, 0, 3, 3);
    }

    /** "One that does its STEP at once .. has its next one in the next beat": whatever its outcome. */
    private static void doneAtOnce() {
        Kit kit = Check.kit(1, 0, 1, 3, 2, 10, 0, 2, 1);
        Check.script(kit, 0, 0, 0, 1, 0, 2, 1, 0, 0, 0, 2, 2, 0, 3, 0, 0, 2, 2, 0);
        kit.close(2, 4);
        kit.interrupt(0, 1);
        Check.due("run", kit.run(9), 6);
        int[] outcomes = {0, 7, 6, 4, 2, 4};
        for (int i = 0; i < outcomes.length; i++) {
            Check.ended(kit, "one a beat", 0, i, outcomes[i], 0, i + 1, i + 1);
        }
    }

    /** "a VALUE (0, where nothing is said, and with all OUTCOMES but 0)". */
    private static void valueOfOthersThanPassed() {
        Kit kit = Check.kit(4, 3, 4, 9, 0, 0, 5);
        Check.script(kit, 0, 0, 0, 0, 2, 2, 6, 2, 1, 101, 1, 0, 0);
        Check.script(kit, 1, 0, 0, 0);
        kit.step(2, 0, 0, 0, 3);
        Check.script(kit, 3, 1, 0, 0);
        Check.due("run", kit.run(3), 3);
        Check.ended(kit, "waits: how many wait already is not told yet", 1, 0, 1, 0, 1, 0);
        Check.due("run", kit.run(9), 7);
        Check.ended(kit, "its patience is over", 2, 0, 3, 0, 1, 4);
        Check.ended(kit, "broken", 1, 0, 5, 0, 1, 4);
        Check.ended(kit, "not now", 0, 1, 7, 0, 5, 5);
        Check.ended(kit, "misuse", 0, 2, 6, 0, 6, 6);
        Check.ended(kit, "passed", 0, 3, 0, 0, 7, 7);
        Check.script(kit, 0, 1, 1, 0, 1, 8, 0);
        kit.close(1, 10);
        Check.due("run", kit.run(20), 11);
        Check.ended(kit, "closed", 0, 4, 4, 0, 8, 10);
        Check.ended(kit, "closed", 0, 5, 4, 0, 11, 11);
    }

    /** "INTERRUPTED: one that WAITS waits no more, with 2." */
    private static void interruptedWaitsNoMore() {
        Kit kit = takers(0, 5, 6, 7);
        kit.interrupt(1, 2);
        Check.due("run", kit.run(9), 2);
        Check.ended(kit, "interrupted", 1, 0, 2, 0, 1, 2);
        Check.line(kit, "out of the line", 0, 0, 2);
        Check.due("it waits nowhere", kit.tell(1, 2), NONE);
        Check.due("none is kept", kit.tell(1, 3), 0);
    }

    /** "One that does not: its next STEP that would WAIT ends at once with 2, as if it had begun to". */
    private static void interruptOfOneThatDoesNotWait() {
        Kit kit = Check.kit(2, 2, 1);
        kit.interrupt(0, 1);
        Check.due("one without steps", kit.run(9), 1);
        Check.due("kept", kit.tell(0, 3), 1);
        kit.step(0, 0, 0, 0, 5);
        Check.due("run", kit.run(9), 2);
        Check.ended(kit, "at once", 0, 0, 2, 0, 2, 2);
        Check.due("used up", kit.tell(0, 3), 0);
        Check.line(kit, "not in the line", 0);
        Check.stuck(kit, "nobody");
    }

    /** "its next STEP that would WAIT": those that would not leave it as it is. */
    private static void interruptKeptThroughStepsThatDoNotWait() {
        Kit kit = Check.kit(1, 0, 1, 2, 1, 3, 1, 10, 0);
        Check.script(kit, 0, 0, 0, 1, 0, 2, 1, 0, 0, 101, 2, 0, 0, 3, 2, 0, 1, 2, 0, 0, 0, 1);
        kit.interrupt(0, 1);
        kit.close(3, 5);
        Check.due("run", kit.run(6), 6);
        Check.outcomes(kit, "none of them waits", 0, 0, 7, 6, 0, 4, 6);
        Check.due("kept", kit.tell(0, 3), 1);
        Check.due("run", kit.run(9), 7);
        Check.ended(kit, "the first that would", 0, 6, 2, 0, 7, 7);
        Check.due("used up", kit.tell(0, 3), 0);
    }

    /** "its next STEP that would WAIT": none of these does, though it could at another time. */
    private static void interruptKeptWhereEachKindPassesAtOnce() {
        Kit kit = Check.kit(2, 0, 1, 1, 1, 2, 0, 3, 1, 4, 0, 5, 0, 6, 1, 7, 0, 8, 0, 9, 0, 10, 0, 11, 0);
        Check.script(kit, 0, 0, 0, 1, 1, 0, 1, 2, 0, 0, 3, 0, 0, 4, 0, 5, 5, 0, 0, 5, 3, 0, 6, 0, 4, 6, 1, 0);
        Check.script(kit, 0, 7, 0, 0, 7, 2, 0, 7, 1, 0, 8, 0, 3, 8, 1, 0, 9, 0, 0, 9, 1, 0, 10, 2, 0, 11, 0, 0);
        Check.script(kit, 1, 4, 0, 6);
        kit.interrupt(0, 1);
        Check.due("run", kit.run(50), 18);
        Check.outcomes(kit, "all pass", 0, 0, 0, 0, 0, 0, 0, 0, 0, 0, 0, 0, 0, 0, 0, 0, 0, 0, 0);
        Check.values(kit, "as if there were none", 0, 0, 0, 0, 0, 6, 0, 0, 0, 4, 0, 0, 0, 0, 3, 0, 1, 0, 0);
        Check.due("kept", kit.tell(0, 3), 1);
    }

    /** "its next STEP that would WAIT": the last one here passes at once, though another one waits there. */
    private static void interruptKeptThoughOthersWait() {
        int[][] kinds = {{0, 1}, {3, 2}, {4, 0}, {5, 0}, {6, 0}, {6, 0}, {6, 1}, {7, 0}, {9, 0}};
        int[][] threadsActsAndNumbers = {
            {1, 0, 2, 0, 0, 1}, {1, 0, 0, 0, 0, 0}, {1, 0, 4, 0, 0, 5}, {0, 0, 0, 1, 1, 0, 0, 3, 0},
            {1, 1, 0, 0, 0, 6}, {1, 0, 6, 0, 1, 0}, {1, 0, 6, 1, 0, 7, 0, 1, 0},
            {1, 0, 0, 1, 0, 0, 1, 2, 0, 1, 1, 1, 0, 1, 0}, {0, 0, 0, 1, 0, 0, 1, 1, 0, 0, 1, 0},
        };
        for (int k = 0; k < kinds.length; k++) {
            int[] steps = threadsActsAndNumbers[k];
            Kit kit = Check.kit(2, kinds[k]);
            int last = steps.length - 3;
            for (int i = 0; i < last; i += 3) {
                Check.then(kit, steps[i], steps[i + 1], steps[i + 2]);
            }
            Check.line(kit, "another one waits", 0, 1);
            Check.due("interrupt", kit.interrupt(0, last / 3 + 1), true);
            Check.due("kind " + kinds[k][0], Check.then(kit, 0, steps[last + 1], steps[last + 2]), 0);
            Check.due("kept", kit.tell(0, 3), 1);
        }
    }

    /** "its next STEP that would WAIT ends at once with 2": at each kind. */
    private static void interruptUsedWhereEachKindWouldWait() {
        int none = 9;
        int[][] kinds = {{0, 0}, {1, 0}, {2, 1}, {3, 2}, {4, 0}, {5, 0}, {6, 0}, {6, 8}, {7, 0}, {8, 0}, {9, 0}, {10, 0}, {11, 0}};
        int[] othersAct = {none, none, none, none, none, 1, none, none, 0, none, 0, 0, 0};
        int[] ownAct = {none, none, none, none, none, none, none, none, none, none, 0, none, none};
        int[] act = {0, 0, 0, 0, 0, 0, 0, 1, 1, 1, 1, 2, 0};
        for (int k = 0; k < kinds.length; k++) {
            Kit kit = Check.kit(2, kinds[k]);
            Check.script(kit, 1, 0, othersAct[k], 0);
            Check.script(kit, 0, 0, ownAct[k], 0, 0, none, 0, 0, act[k], kinds[k][0] < 2 ? 1 : 0);
            kit.interrupt(0, 1);
            Check.due("run", kit.run(50), 3);
            Check.ended(kit, "kind " + kinds[k][0], 0, 2, 2, 0, 3, 3);
            Check.due("used up", kit.tell(0, 3), 0);
            Check.line(kit, "nobody waits", 0);
        }
    }

    /** "(one interrupt at most is kept so)". */
    private static void oneInterruptIsKept() {
        Kit kit = Check.kit(1, 2, 1);
        for (int beat = 1; beat <= 3; beat++) {
            Check.due("interrupt", kit.interrupt(0, beat), true);
        }
        Check.due("run", kit.run(9), 3);
        Check.due("one", kit.tell(0, 3), 1);
        Check.script(kit, 0, 0, 0, 0, 0, 0, 0);
        Check.due("run", kit.run(9), 5);
        Check.outcomes(kit, "the first only", 0, 2, 1);
    }

    /** "One that does not" wait: it was let go in this beat by another one's interrupt. */
    private static void interruptOfOneLetGoInThatBeat() {
        Kit kit = Check.kit(2, 1, 1);
        Check.script(kit, 0, 0, 0, 2);
        Check.script(kit, 1, 0, 0, 1);
        kit.interrupt(0, 2);
        kit.interrupt(1, 2);
        Check.due("run", kit.run(9), 2);
        Check.ended(kit, "interrupted", 0, 0, 2, 0, 1, 2);
        Check.ended(kit, "let go ahead of its own", 1, 0, 0, 0, 1, 2);
        Check.due("so it is kept", kit.tell(1, 3), 1);
    }

    /** "CLOSED: all that WAIT at the DEVICE: 4": and nobody elsewhere. */
    private static void closedWithALine() {
        Kit kit = Check.kit(3, 2, 1, 2, 1);
        Check.script(kit, 0, 0, 0, 0);
        Check.script(kit, 1, 1, 0, 0);
        Check.script(kit, 2, 0, 0, 0);
        kit.close(0, 4);
        Check.due("run", kit.run(3), 3);
        Check.state(kit, "not yet", 0, 2, 2, 0, 1, 0);
        Check.due("run", kit.run(9), 4);
        Check.state(kit, "closed", 0, 2, 0, 1, 1, 0);
        Check.ended(kit, "all", 0, 0, 4, 0, 1, 4);
        Check.ended(kit, "all", 2, 0, 4, 0, 1, 4);
        Check.stuck(kit, "the one elsewhere", 1);
        Check.passed(kit, "nobody", 0);
    }

    /** "CLOSED: all that WAIT": if nobody does. */
    private static void closedWithoutALine() {
        Kit kit = Check.kit(1, 2, 1, 2, 1);
        kit.close(0, 2);
        Check.due("run", kit.run(9), 2);
        Check.state(kit, "closed", 0, 2, 0, 1, 1, 0);
        Check.state(kit, "the other one is not", 1, 2, 0, 0, 1, 0);
    }

    /** "and each STEP that begins there later: 4": nothing is done there, and misuse is not told. */
    private static void closedForLaterSteps() {
        for (int kind = 0; kind < 12; kind++) {
            Kit kit = Check.kit(1, kind, kind == 3 ? 1 : 0);
            int[] states = {kit.state(0, 3), kit.state(0, 4)};
            for (int act = 0; act < 10; act++) {
                Check.script(kit, 0, 0, act, 1);
            }
            kit.close(0, 1);
            Check.due("run", kit.run(50), 10);
            Check.outcomes(kit, "kind " + kind, 0, 4, 4, 4, 4, 4, 4, 4, 4, 4, 4);
            Check.state(kit, "as it was", 0, kind, 0, 1, states[0], states[1]);
        }
    }

    /** "CLOSED: all that WAIT at the DEVICE: 4": all that is told of it but its line is as it was. */
    private static void closingChangesNothingElse() {
        int[][] kinds = {{0, 3}, {1, 3}, {2, 5}, {4, 0}, {5, 0}, {5, 0}, {6, 2}, {7, 0}, {8, 0}, {9, 0}, {10, 0}, {11, 0}};
        int[][] threadsActsAndNumbers = {
            {1, 0, 4}, {1, 0, 4}, {0, 1, 0, 1, 0, 0}, {1, 0, 4},
            {0, 0, 0, 2, 0, 0, 1, 1, 0}, {2, 1, 0, 1, 0, 0}, {0, 0, 5, 0, 0, 6, 1, 0, 7},
            {0, 0, 0, 0, 0, 0, 0, 2, 0, 1, 1, 1}, {1, 1, 0}, {0, 0, 0, 1, 0, 0, 2, 0, 0, 1, 1, 0}, {0, 0, 0, 1, 2, 0},
            {2, 0, 0, 1, 0, 0},
        };
        int[][] states = {
            {3, 0}, {3, 0}, {4, 0}, {0, 0}, {2, NONE}, {0, 2}, {2, 0}, {2, 1}, {0, 0}, {0, 3}, {1, 0}, {1, 2},
        };
        for (int k = 0; k < kinds.length; k++) {
            int[] steps = threadsActsAndNumbers[k];
            Kit kit = Check.kit(3, kinds[k]);
            for (int i = 0; i < steps.length; i += 3) {
                Check.then(kit, steps[i], steps[i + 1], steps[i + 2]);
            }
            String kind = "kind " + kinds[k][0];
            Check.state(kit, kind + ", one waits", 0, kinds[k][0], 1, 0, states[k][0], states[k][1]);
            int beat = steps.length / 3 + 1;
            Check.due("close", kit.close(0, beat), true);
            Check.due("run", kit.run(100), beat);
            Check.state(kit, kind + ", closed", 0, kinds[k][0], 0, 1, states[k][0], states[k][1]);
            Check.due("where it waits", kit.tell(1, 2), NONE);
        }
    }

    /** "Who ended so, or by its patience, is let go." */
    private static void whoEndedSoIsLetGo() {
        Kit kit = Check.kit(3, 2, 1, 2, 1, 10, 0);
        kit.step(0, 0, 0, 0, 0);
        kit.step(1, 1, 0, 0, 0);
        kit.step(2, 0, 0, 0, 2);
        for (int t = 0; t < 3; t++) {
            Check.script(kit, t, 2, 2, 0);
        }
        kit.interrupt(0, 3);
        kit.close(1, 3);
        Check.due("run", kit.run(3), 3);
        int[] outcomes = {2, 4, 3};
        for (int t = 0; t < 3; t++) {
            Check.ended(kit, "ended", t, 0, outcomes[t], 0, 1, 3);
            Check.ended(kit, "its next one not in this beat", t, 1, 8, 0, 0, 0);
        }
        Check.due("run", kit.run(9), 4);
        for (int t = 0; t < 3; t++) {
            Check.ended(kit, "but in the next", t, 1, 0, 0, 4, 4);
        }
    }

    /** "LINE: those that WAIT at a DEVICE, in the order in which they began to": from none to all. */
    private static void lineInTheOrderOfBeginning() {
        Kit kit = Check.kit(3, 2, 1, 10, 0);
        Check.script(kit, 0, 1, 2, 0, 1, 2, 0, 0, 0, 0);
        Check.script(kit, 1, 1, 2, 0, 0, 0, 0);
        Check.script(kit, 2, 0, 0, 0, 0, 0, 0);
        Check.line(kit, "nobody", 0);
        kit.run(1);
        Check.line(kit, "one", 0, 2);
        kit.run(2);
        Check.line(kit, "two", 0, 2, 1);
        kit.run(3);
        Check.line(kit, "three", 0, 2, 1, 0);
        kit.interrupt(2, 4);
        kit.run(4);
        Check.line(kit, "the first is out", 0, 1, 0);
        kit.run(5);
        Check.line(kit, "and begins anew behind the others", 0, 1, 0, 2);
    }

    /** "or went out of its LINE, the others are let go as is told below, until nobody is." */
    private static void othersLetGoUntilNobodyIs() {
        Kit kit = Check.kit(5, 1, 6);
        Check.script(kit, 0, 0, 0, 7);
        Check.script(kit, 1, 0, 0, 1);
        Check.script(kit, 2, 0, 0, 2);
        Check.script(kit, 3, 0, 0, 3);
        Check.script(kit, 4, 0, 0, 1);
        Check.due("run", kit.run(9), 1);
        Check.line(kit, "all wait behind the first", 0, 0, 1, 2, 3, 4);
        kit.interrupt(0, 2);
        Check.due("run", kit.run(9), 2);
        Check.passed(kit, "one behind the other", 0, 1, 2, 3);
        Check.ended(kit, "the last that there were enough for", 3, 0, 0, 0, 1, 2);
        Check.line(kit, "none is left for one more", 0, 4);
    }
}
