/** The edges of kind 5, a lock with many lookers or one user. */
public final class EdgesOfLockTest {
    private static final int NONE = MeetingKit.NONE;
    private static final int LOOK = 0;
    private static final int USE = 1;
    private static final int LEAVE = 2;
    private static final int UPGRADE = 3;
    private static final int DOWNGRADE = 4;

    public static void main(String[] args) {
        oneAlready();
        lookAtOnce();
        lookWithAUser();
        lookWhileSomebodyWaits();
        useAtOnce();
        useWithALooker();
        useWhileSomebodyWaits();
        leaveOfBothAndOfNone();
        leaveOfOneThatGaveUp();
        upgradeOfNoLooker();
        upgradeWhileAnotherWaits();
        upgradeOfTheOnlyLooker();
        upgradeOfOneOfTwo();
        upgradeOfOneOfSixteen();
        downgradeOfNoUser();
        upgraderIsLetGoFirst();
        nobodyElseMeanwhile();
        nobodyElseWhenTheFirstGivesUp();
        upgraderThatGivesUp();
        asLongAsItCanBe();
        usersOneByOne();
        interruptKeptByThoseThatPassAtOnce();
        interruptUsedByThoseThatWouldWait();
        Check.end("edges of the lock");
    }

    /** A lock, and for each thread an act in beat 1. */
    private static Kit acts(int... firstActs) {
        Kit kit = Check.kit(firstActs.length, 5, 0);
        for (int t = 0; t < firstActs.length; t++) {
            Check.script(kit, t, 0, firstActs[t], 0);
        }
        Check.due("run", kit.run(1), 1);
        return kit;
    }

    /** One more act of a thread, done in the next beat. */
    private static void then(Kit kit, int thread, int act, int beat) {
        Check.script(kit, thread, 0, act, 0);
        Check.due("run", kit.run(beat), beat);
    }

    private static void lockIs(Kit kit, String what, int lookers, int user) {
        Check.due(what + ": lookers", kit.state(0, 3), lookers);
        Check.due(what + ": user", kit.state(0, 4), user);
    }

    /** "0 look: a looker; 1 use: the user; both: 6 if it is one already." */
    private static void oneAlready() {
        for (int first = LOOK; first <= USE; first++) {
            for (int second = LOOK; second <= USE; second++) {
                Kit kit = acts(first);
                then(kit, 0, second, 2);
                Check.ended(kit, "one already", 0, 1, 6, 0, 2, 2);
                lockIs(kit, "as it was", first == LOOK ? 1 : 0, first == LOOK ? NONE : 0);
                then(kit, 0, LEAVE, 3);
                then(kit, 0, second, 4);
                Check.ended(kit, "none any more", 0, 3, 0, 0, 4, 4);
            }
        }
    }

    /** "They PASS at once if nobody WAITS, there is no user": whoever else looks. */
    private static void lookAtOnce() {
        Kit kit = acts(0, 0, 0, 0, 0, 0, 0, 0, 0, 0, 0, 0, 0, 0, 0, 0);
        lockIs(kit, "all sixteen", 16, NONE);
        Check.passed(kit, "at once", 0, 0, 1, 2, 3, 4, 5, 6, 7, 8, 9, 10, 11, 12, 13, 14, 15);
    }

    /** "there is no user ..; else they WAIT." */
    private static void lookWithAUser() {
        Kit kit = acts(USE, LOOK);
        Check.line(kit, "it waits", 0, 1);
        lockIs(kit, "no looker yet", 0, 0);
        then(kit, 0, LEAVE, 2);
        Check.ended(kit, "no user any more", 1, 0, 0, 0, 1, 2);
        lockIs(kit, "a looker", 1, NONE);
    }

    /** "if nobody WAITS": though there is no user. */
    private static void lookWhileSomebodyWaits() {
        Kit kit = acts(LOOK, USE, LOOK);
        Check.line(kit, "behind the one that uses", 0, 1, 2);
        lockIs(kit, "one looks", 1, NONE);
    }

    /** "there is no user, and, to use it, no looker": nobody at all. */
    private static void useAtOnce() {
        Kit kit = acts(USE);
        Check.ended(kit, "at once", 0, 0, 0, 0, 1, 1);
        lockIs(kit, "thread 0, not none", 0, 0);
        Kit last = Check.kit(16, 5, 0);
        then(last, 15, USE, 1);
        lockIs(last, "the last thread", 0, 15);
    }

    /** "and, to use it, no looker": the last that leaves makes it free. */
    private static void useWithALooker() {
        Kit kit = acts(LOOK, LOOK, USE);
        then(kit, 0, LEAVE, 2);
        Check.line(kit, "one still looks", 0, 2);
        then(kit, 1, LEAVE, 3);
        Check.ended(kit, "none looks", 2, 0, 0, 0, 1, 3);
        lockIs(kit, "the user", 0, 2);
    }

    /** "if nobody WAITS": a user that comes behind others waits behind them. */
    private static void useWhileSomebodyWaits() {
        Kit kit = acts(USE, LOOK, USE);
        Check.line(kit, "both wait", 0, 1, 2);
        then(kit, 0, LEAVE, 2);
        lockIs(kit, "the looker is ahead", 1, NONE);
        Check.line(kit, "the user waits", 0, 2);
    }

    /** "2 leave: it is none any more (6 if it was none)." */
    private static void leaveOfBothAndOfNone() {
        Kit kit = acts(LEAVE, LOOK);
        Check.ended(kit, "never was one", 0, 0, 6, 0, 1, 1);
        lockIs(kit, "the other one looks all the same", 1, NONE);
        then(kit, 1, LEAVE, 2);
        Check.ended(kit, "was a looker", 1, 1, 0, 0, 2, 2);
        then(kit, 1, LEAVE, 3);
        Check.ended(kit, "is none any more", 1, 2, 6, 0, 3, 3);
        then(kit, 1, USE, 4);
        then(kit, 0, LEAVE, 5);
        Check.ended(kit, "another one is the user", 0, 1, 6, 0, 5, 5);
        lockIs(kit, "it is the user all the same", 0, 1);
        then(kit, 1, LEAVE, 6);
        then(kit, 1, LEAVE, 7);
        Check.outcomes(kit, "was the user, is none any more", 1, 0, 0, 6, 0, 0, 6);
        lockIs(kit, "nobody", 0, NONE);
    }

    /** "6 if it was none": one that only waited to be one. */
    private static void leaveOfOneThatGaveUp() {
        Kit kit = Check.kit(2, 5, 0);
        Check.script(kit, 0, 0, USE, 0);
        kit.step(1, 0, LOOK, 0, 1);
        Check.script(kit, 1, 0, LEAVE, 0);
        Check.due("run", kit.run(9), 3);
        Check.outcomes(kit, "its patience is over", 1, 3, 6);
        lockIs(kit, "as it was", 0, 0);
    }

    /** "3 upgrade: 6 if it is no looker": none at all, or the user. */
    private static void upgradeOfNoLooker() {
        Kit kit = acts(UPGRADE, USE);
        Check.ended(kit, "none at all", 0, 0, 6, 0, 1, 1);
        then(kit, 1, UPGRADE, 2);
        Check.ended(kit, "the user", 1, 1, 6, 0, 2, 2);
        lockIs(kit, "as it was", 0, 1);
    }

    /** "6 if .. another one WAITS for this". */
    private static void upgradeWhileAnotherWaits() {
        Kit kit = acts(LOOK, LOOK, LOOK);
        then(kit, 2, UPGRADE, 2);
        then(kit, 0, UPGRADE, 3);
        Check.ended(kit, "another one waits", 0, 1, 6, 0, 3, 3);
        lockIs(kit, "all look", 3, NONE);
        kit.interrupt(2, 4);
        Check.due("run", kit.run(4), 4);
        then(kit, 1, UPGRADE, 5);
        Check.ended(kit, "no other one waits any more", 1, 1, 1, 0, 5, 0);
    }

    /** "the only looker becomes the user": though others wait. */
    private static void upgradeOfTheOnlyLooker() {
        Kit kit = acts(LOOK, USE, LOOK);
        then(kit, 0, UPGRADE, 2);
        Check.ended(kit, "at once", 0, 1, 0, 0, 2, 2);
        lockIs(kit, "the user, no looker", 0, 0);
        Check.line(kit, "the others wait", 0, 1, 2);
        then(kit, 0, DOWNGRADE, 3);
        lockIs(kit, "and back", 1, NONE);
        then(kit, 0, LEAVE, 4);
        lockIs(kit, "the next one", 0, 1);
    }

    /** "else it WAITS (and is a looker meanwhile)". */
    private static void upgradeOfOneOfTwo() {
        Kit kit = acts(LOOK, LOOK);
        then(kit, 0, UPGRADE, 2);
        Check.ended(kit, "it waits", 0, 1, 1, 0, 2, 0);
        lockIs(kit, "a looker meanwhile", 2, NONE);
        then(kit, 1, LEAVE, 3);
        Check.ended(kit, "the only one now", 0, 1, 0, 0, 2, 3);
        lockIs(kit, "the user", 0, 0);
    }

    /** "the only looker": not one of sixteen, not one of two. */
    private static void upgradeOfOneOfSixteen() {
        Kit kit = acts(0, 0, 0, 0, 0, 0, 0, 0, 0, 0, 0, 0, 0, 0, 0, 0);
        then(kit, 15, UPGRADE, 2);
        for (int t = 0; t < 14; t++) {
            Check.script(kit, t, 0, LEAVE, 0);
        }
        Check.due("run", kit.run(9), 3);
        lockIs(kit, "one other looks", 2, NONE);
        Check.line(kit, "it waits", 0, 15);
        then(kit, 14, LEAVE, 4);
        lockIs(kit, "no other looks", 0, 15);
    }

    /** "4 downgrade: the user becomes a looker (6 otherwise)". */
    private static void downgradeOfNoUser() {
        Kit kit = acts(DOWNGRADE, USE, DOWNGRADE);
        Check.outcomes(kit, "nobody uses it", 0, 6);
        Check.outcomes(kit, "another one uses it", 2, 6);
        then(kit, 1, DOWNGRADE, 2);
        Check.ended(kit, "the user", 1, 1, 0, 0, 2, 2);
        lockIs(kit, "a looker", 1, NONE);
        then(kit, 1, DOWNGRADE, 3);
        Check.ended(kit, "a looker is no user", 1, 2, 6, 0, 3, 3);
        lockIs(kit, "as it was", 1, NONE);
    }

    /** "Let go: if one WAITS to upgrade, it, if it is the only looker": ahead of the line's first. */
    private static void upgraderIsLetGoFirst() {
        Kit kit = acts(LOOK, LOOK, USE);
        then(kit, 0, UPGRADE, 2);
        Check.line(kit, "the user is first in line", 0, 2, 0);
        then(kit, 1, LEAVE, 3);
        lockIs(kit, "but the upgrader is let go", 0, 0);
        Check.line(kit, "and the user not", 0, 2);
        Check.passed(kit, "in order", 0, 0, 1, 1, 0);
    }

    /** "and nobody else meanwhile": no looker, though no user is there or in line. */
    private static void nobodyElseMeanwhile() {
        Kit kit = acts(LOOK, LOOK, LOOK, LEAVE);
        then(kit, 0, UPGRADE, 2);
        then(kit, 3, LOOK, 3);
        then(kit, 1, LEAVE, 4);
        Check.line(kit, "neither of them", 0, 0, 3);
        lockIs(kit, "two look", 2, NONE);
    }

    /** "and nobody else meanwhile": not the looker that is the line's first then, as the upgrader is behind it. */
    private static void nobodyElseWhenTheFirstGivesUp() {
        Kit kit = acts(LOOK, LOOK, USE, LOOK);
        then(kit, 0, UPGRADE, 2);
        Check.line(kit, "the upgrader is the last", 0, 2, 3, 0);
        kit.interrupt(2, 3);
        Check.due("run", kit.run(9), 3);
        Check.line(kit, "the looker is the first", 0, 3, 0);
        lockIs(kit, "but no looker yet", 2, NONE);
        then(kit, 1, LEAVE, 4);
        Check.line(kit, "nor now", 0, 3);
        lockIs(kit, "the upgrader is let go", 0, 0);
        then(kit, 0, DOWNGRADE, 5);
        lockIs(kit, "now it is one", 2, NONE);
    }

    /** "nobody else meanwhile": when it waits no more the line's first on; and it looks all the same. */
    private static void upgraderThatGivesUp() {
        Kit kit = acts(LOOK, LOOK, LEAVE, LEAVE);
        kit.step(0, 0, UPGRADE, 0, 3);
        Check.due("run", kit.run(2), 2);
        Check.script(kit, 2, 0, LOOK, 0);
        Check.script(kit, 3, 0, USE, 0);
        Check.due("run", kit.run(4), 4);
        Check.line(kit, "all wait", 0, 0, 2, 3);
        Check.due("run", kit.run(9), 5);
        Check.ended(kit, "its patience is over", 0, 1, 3, 0, 2, 5);
        Check.ended(kit, "the looker is let go", 2, 1, 0, 0, 3, 5);
        Check.line(kit, "the user not", 0, 3);
        lockIs(kit, "three look", 3, NONE);
    }

    /** "else from the LINE's first on, as long as it can be: one that looks if there is no user". */
    private static void asLongAsItCanBe() {
        Kit kit = acts(USE, LOOK, LOOK, USE, LOOK);
        then(kit, 0, LEAVE, 2);
        lockIs(kit, "the first two", 2, NONE);
        Check.line(kit, "not the looker behind the user", 0, 3, 4);
        Check.passed(kit, "in order", 0, 0, 0, 1, 2);
        kit.interrupt(3, 3);
        Check.due("run", kit.run(9), 3);
        lockIs(kit, "when the user is out of the line", 3, NONE);
    }

    /** "one that uses if there is no user and no looker": one at a time. */
    private static void usersOneByOne() {
        Kit kit = acts(USE, USE, USE, LOOK);
        then(kit, 0, LEAVE, 2);
        lockIs(kit, "the first", 0, 1);
        Check.line(kit, "not the second", 0, 2, 3);
        then(kit, 1, DOWNGRADE, 3);
        Check.line(kit, "one looks, so not the second yet", 0, 2, 3);
        then(kit, 1, LEAVE, 4);
        lockIs(kit, "the second", 0, 2);
        then(kit, 2, LEAVE, 5);
        lockIs(kit, "the looker", 1, NONE);
    }

    /** "They PASS at once": so they would not wait, and an interrupt is still kept for them. */
    private static void interruptKeptByThoseThatPassAtOnce() {
        Kit kit = Check.kit(1, 5, 0);
        kit.interrupt(0, 1);
        Check.due("run", kit.run(1), 1);
        int[] all = {LOOK, UPGRADE, DOWNGRADE, LEAVE, USE, LEAVE};
        for (int i = 0; i < all.length; i++) {
            then(kit, 0, all[i], 2 + i);
            Check.ended(kit, "act " + all[i], 0, i, 0, 0, 2 + i, 2 + i);
            Check.due("kept", kit.tell(0, 3), 1);
        }
    }

    /** "else they WAIT", "else it WAITS": an interrupt that is kept ends that at once. */
    private static void interruptUsedByThoseThatWouldWait() {
        int[] firsts = {USE, LOOK, LOOK};
        int[] seconds = {LOOK, USE, UPGRADE};
        for (int i = 0; i < 3; i++) {
            Kit kit = acts(firsts[i], seconds[i] == UPGRADE ? LOOK : LEAVE);
            kit.interrupt(1, 2);
            then(kit, 1, seconds[i], 2);
            Check.ended(kit, "act " + seconds[i], 1, 1, 2, 0, 2, 2);
            Check.due("used", kit.tell(1, 3), 0);
            lockIs(kit, "as it was", firsts[i] == USE ? 0 : 1 + i / 2, firsts[i] == USE ? 0 : NONE);
            Check.line(kit, "nobody waits", 0);
        }
    }
}
