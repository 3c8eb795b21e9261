/** The edges of kinds 0 and 1, permits unfair and fair. */
public final class EdgesOfPermitsTest {
    public static void main(String[] args) {
        for (int kind = 0; kind < 2; kind++) {
            atFirst(kind);
            takeTooFewOrTooMany(kind);
            takeAllOrOneTooMany(kind);
            giveTooFewOrTooMany(kind);
            aThousandInAll(kind);
            aThousandWithoutThoseTaken(kind);
            tryTooFewOrTooMany(kind);
            tryAllOrOneTooMany(kind);
            valueRightBehindItsOwnAct(kind);
        }
        eachThatThereAreEnoughFor();
        unfairPassesThoseThatWait();
        fairHasNoneWhileSomebodyWaits();
        fairHasSomeWhenNobodyWaits();
        fairLetsTheFirstAloneGo();
        Check.end("edges of permits");
    }

    /** "PERMITS, n of them at first (0 .. 100)". */
    private static void atFirst(int kind) {
        Kit none = Check.kit(1, kind, 0);
        Check.due("none", none.state(0, 3), 0);
        Check.script(none, 0, 0, 2, 1);
        none.run(9);
        Check.ended(none, "not one", 0, 0, 7, 0, 1, 1);
        Kit most = Check.kit(1, kind, 100);
        Check.due("a hundred", most.state(0, 3), 100);
        Check.script(most, 0, 0, 2, 100, 0, 2, 1);
        most.run(9);
        Check.outcomes(most, "a hundred and not one more", 0, 0, 7);
    }

    /** One thread at a hundred permits does an act with each number. */
    private static Kit oneByOne(int kind, int act, int... numbers) {
        Kit kit = Check.kit(1, kind, 100);
        for (int a : numbers) {
            Check.script(kit, 0, 0, act, a);
        }
        Check.due("run", kit.run(50), numbers.length);
        return kit;
    }

    /** "0 take a (1 .. 100; else 6)". */
    private static void takeTooFewOrTooMany(int kind) {
        Kit kit = oneByOne(kind, 0, 0, -1, -1000000, 101, 102, 1000000);
        Check.outcomes(kit, "misuse", 0, 6, 6, 6, 6, 6, 6);
        Check.state(kit, "all are there, nobody waits", 0, kind, 0, 0, 100);
        Check.ended(oneByOne(kind, 0, 1), "one", 0, 0, 0, 99, 1, 1);
        Check.ended(oneByOne(kind, 0, 100), "a hundred", 0, 0, 0, 0, 1, 1);
    }

    /** "PASSES with a permits if there are so many, else WAITS." */
    private static void takeAllOrOneTooMany(int kind) {
        for (int n = 1; n <= 100; n += 33) {
            Kit kit = Check.kit(2, kind, n - 1);
            Check.script(kit, 0, 0, 0, n);
            Check.due("run", kit.run(9), 1);
            Check.ended(kit, "one too many", 0, 0, 1, 0, 1, 0);
            Check.state(kit, "they stay there", 0, kind, 1, 0, n - 1);
            Kit all = Check.kit(1, kind, n);
            Check.script(all, 0, 0, 0, n);
            Check.due("run", all.run(9), 1);
            Check.ended(all, "all", 0, 0, 0, 0, 1, 1);
            Check.state(all, "none is left", 0, kind, 0, 0, 0);
        }
    }

    /** "1 give a (1 .. 100 ..; else 6)". */
    private static void giveTooFewOrTooMany(int kind) {
        Kit kit = oneByOne(kind, 1, 0, -1, -1000000, 101, 102, 1000000);
        Check.outcomes(kit, "misuse", 0, 6, 6, 6, 6, 6, 6);
        Check.due("as many as ahead of it", kit.state(0, 3), 100);
        Check.ended(oneByOne(kind, 1, 1), "one", 0, 0, 0, 101, 1, 1);
        Check.ended(oneByOne(kind, 1, 100), "a hundred", 0, 0, 0, 200, 1, 1);
    }

    /** "and no more than 1000 in all; else 6". */
    private static void aThousandInAll(int kind) {
        Kit kit = oneByOne(kind, 1, 100, 100, 100, 100, 100, 100, 100, 100, 99, 2, 100, 1, 1, 100);
        Check.ended(kit, "999", 0, 8, 0, 999, 9, 9);
        Check.ended(kit, "1001", 0, 9, 6, 0, 10, 10);
        Check.ended(kit, "1099", 0, 10, 6, 0, 11, 11);
        Check.ended(kit, "1000", 0, 11, 0, 1000, 12, 12);
        Check.ended(kit, "1001", 0, 12, 6, 0, 13, 13);
        Check.ended(kit, "1100", 0, 13, 6, 0, 14, 14);
        Check.due("a thousand", kit.state(0, 3), 1000);
    }

    /** "no more than 1000 in all": those that were taken do not count. */
    private static void aThousandWithoutThoseTaken(int kind) {
        Kit kit = oneByOne(kind, 1, 100, 100, 100, 100, 100, 100, 100, 100, 100);
        Check.due("a thousand", kit.state(0, 3), 1000);
        Check.script(kit, 0, 0, 0, 5, 0, 1, 6, 0, 1, 5);
        kit.run(50);
        Check.ended(kit, "take 5", 0, 9, 0, 995, 10, 10);
        Check.ended(kit, "6 are too many", 0, 10, 6, 0, 11, 11);
        Check.ended(kit, "5 are not", 0, 11, 0, 1000, 12, 12);
    }

    /** "2 try a (as take)": 1 .. 100, else 6. */
    private static void tryTooFewOrTooMany(int kind) {
        Kit kit = oneByOne(kind, 2, 0, -1, -1000000, 101, 102, 1000000);
        Check.outcomes(kit, "misuse", 0, 6, 6, 6, 6, 6, 6);
        Check.due("all are there", kit.state(0, 3), 100);
        Check.ended(oneByOne(kind, 2, 1), "one", 0, 0, 0, 99, 1, 1);
        Check.ended(oneByOne(kind, 2, 100), "a hundred", 0, 0, 0, 0, 1, 1);
    }

    /** "7 instead of WAITING." */
    private static void tryAllOrOneTooMany(int kind) {
        Kit kit = Check.kit(1, kind, 41);
        Check.script(kit, 0, 0, 2, 42, 0, 2, 41, 0, 2, 1);
        Check.due("run", kit.run(9), 3);
        Check.outcomes(kit, "one too many, all, one of none", 0, 7, 0, 7);
        Check.line(kit, "nobody waits", 0);
    }

    /** "VALUE: how many permits are there right behind its own act." */
    private static void valueRightBehindItsOwnAct(int kind) {
        Kit kit = Check.kit(3, kind, 1);
        Check.script(kit, 0, 0, 0, 4);
        Check.script(kit, 1, 0, 0, 2);
        Check.script(kit, 2, 0, 1, 6);
        Check.due("run", kit.run(9), 1);
        Check.ended(kit, "ahead of what the others take", 2, 0, 0, 7, 1, 1);
        Check.ended(kit, "ahead of what the second takes", 0, 0, 0, 3, 1, 1);
        Check.ended(kit, "the last", 1, 0, 0, 1, 1, 1);
    }

    /** "from the LINE's first on each that there are enough for takes them and PASSES": in one go through the line. */
    private static void eachThatThereAreEnoughFor() {
        Kit kit = Check.kit(6, 0, 0);
        int[] numbers = {7, 3, 4, 2, 1};
        for (int t = 0; t < 5; t++) {
            Check.script(kit, t, 0, 0, numbers[t]);
        }
        Check.script(kit, 5, 0, 1, 6);
        Check.due("run", kit.run(9), 1);
        Check.passed(kit, "not the 7, the 3, not the 4, the 2, the 1", 0, 5, 1, 3, 4);
        Check.line(kit, "the others wait", 0, 0, 2);
        Check.script(kit, 5, 0, 1, 3, 0, 1, 1, 0, 1, 6, 0, 1, 1);
        kit.run(2);
        Check.line(kit, "one too few", 0, 0, 2);
        kit.run(3);
        Check.ended(kit, "just enough", 2, 0, 0, 0, 1, 3);
        kit.run(4);
        Check.line(kit, "one too few for the first", 0, 0);
        kit.run(5);
        Check.ended(kit, "just enough for the first", 0, 0, 0, 0, 1, 5);
    }

    /** Kind 0: "PASSES with a permits if there are so many", whoever waits. */
    private static void unfairPassesThoseThatWait() {
        Kit kit = Check.kit(3, 0, 2);
        Check.script(kit, 0, 0, 0, 3);
        Check.script(kit, 1, 0, 0, 1);
        Check.script(kit, 2, 0, 2, 1);
        Check.due("run", kit.run(9), 1);
        Check.outcomes(kit, "the first waits", 0, 1);
        Check.outcomes(kit, "one takes", 1, 0);
        Check.outcomes(kit, "one tries", 2, 0);
    }

    /** Kind 1: "take and try have none while somebody WAITS". */
    private static void fairHasNoneWhileSomebodyWaits() {
        Kit kit = Check.kit(3, 1, 2);
        Check.script(kit, 0, 0, 0, 3);
        Check.script(kit, 1, 0, 0, 1);
        Check.script(kit, 2, 0, 2, 1, 0, 2, 101);
        Check.due("run", kit.run(9), 2);
        Check.outcomes(kit, "one takes", 1, 1);
        Check.outcomes(kit, "one tries, and 101 are misuse all the same", 2, 7, 6);
        Check.state(kit, "two are there", 0, 1, 2, 0, 2);
    }

    /** Kind 1: "while somebody WAITS": when nobody does any more they have some. */
    private static void fairHasSomeWhenNobodyWaits() {
        Kit kit = Check.kit(2, 1, 2);
        kit.step(0, 0, 0, 3, 2);
        Check.script(kit, 1, 0, 2, 1, 0, 2, 1, 0, 2, 1, 0, 0, 1);
        Check.due("run", kit.run(9), 4);
        Check.ended(kit, "its patience is over", 0, 0, 3, 0, 1, 3);
        Check.outcomes(kit, "from that beat on", 1, 7, 7, 0, 0);
    }

    /** Kind 1: "the LINE's first alone is let go, as long as there are enough for it". */
    private static void fairLetsTheFirstAloneGo() {
        Kit kit = Check.kit(5, 1, 0);
        int[] numbers = {2, 1, 5, 1};
        for (int t = 0; t < 4; t++) {
            Check.script(kit, t, 0, 0, numbers[t]);
        }
        Check.script(kit, 4, 0, 1, 1, 0, 1, 1, 0, 1, 5, 0, 1, 1);
        kit.run(1);
        Check.line(kit, "one too few for the first", 0, 0, 1, 2, 3);
        kit.run(2);
        Check.line(kit, "just enough for the first", 0, 1, 2, 3);
        kit.run(3);
        Check.line(kit, "for the second, and one too few for the third", 0, 2, 3);
        Check.due("four are left", kit.state(0, 3), 4);
        kit.run(4);
        Check.line(kit, "just enough for the third", 0, 3);
        Check.passed(kit, "in order", 0, 4, 4, 0, 4, 1, 4, 2);
    }
}
