/** Kind 5: a lock with many lookers or one user. */
public final class Kind05LockTest {
    public static void main(String[] args) {
        misuse();
        lookersAndUsers();
        lookersWaitBehindAUser();
        upgradeWaitsForTheOtherLookers();
        upgradeOfTheOnlyLooker();
        upgradeThatGivesUp();
        aFirstThatGivesUp();
        downgrade();
        keptInterrupt();
        Check.end("lock");
    }

    private static void misuse() {
        Kit kit = Check.kit(1, 5, 0);
        Check.script(kit, 0, 0, 2, 0, 0, 3, 0, 0, 4, 0, 0, 5, 0);
        Check.script(kit, 0, 0, 0, 0, 0, 0, 0, 0, 1, 0, 0, 4, 0);
        Check.script(kit, 0, 0, 2, 0, 0, 1, 0, 0, 1, 0, 0, 0, 0, 0, 3, 0, 0, 2, 0, 0, 2, 0);
        kit.run(99);
        int[] want = {6, 6, 6, 6, 0, 6, 6, 6, 0, 0, 6, 6, 6, 0, 6};
        for (int i = 0; i < want.length; i++) {
            Check.ended(kit, "step " + i, 0, i, want[i], 0, i + 1, i + 1);
        }
    }

    private static void lookersAndUsers() {
        Kit kit = Check.kit(4, 5, 0);
        Check.script(kit, 0, 0, 0, 0, 0, 2, 0);
        Check.script(kit, 1, 0, 0, 0, 0, 2, 0);
        Check.script(kit, 2, 0, 1, 0, 0, 2, 0);
        Check.script(kit, 3, 0, 1, 0);
        kit.run(1);
        Check.due("two look", kit.state(0, 3), 2);
        Check.line(kit, "two wait", 0, 2, 3);
        kit.run(2);
        Check.ended(kit, "nobody looks any more", 2, 0, 0, 0, 1, 2);
        Check.due("user", kit.state(0, 4), 2);
        Check.line(kit, "one waits", 0, 3);
        kit.run(3);
        Check.ended(kit, "nobody uses it any more", 3, 0, 0, 0, 1, 3);
        Check.due("user", kit.state(0, 4), 3);
        Check.passed(kit, "in order", 0, 0, 1, 0, 1, 2, 2, 3);
    }

    private static void lookersWaitBehindAUser() {
        Kit kit = Check.kit(5, 5, 0);
        Check.script(kit, 0, 0, 1, 0, 0, 2, 0);
        Check.script(kit, 1, 0, 0, 0);
        Check.script(kit, 2, 0, 0, 0);
        Check.script(kit, 3, 0, 1, 0);
        Check.script(kit, 4, 0, 0, 0);
        kit.run(1);
        Check.line(kit, "four wait", 0, 1, 2, 3, 4);
        kit.run(2);
        Check.due("the first two look", kit.state(0, 3), 2);
        Check.due("nobody uses it", kit.state(0, 4), MeetingKit.NONE);
        Check.line(kit, "no looker goes ahead of a user", 0, 3, 4);
    }

    private static void upgradeWaitsForTheOtherLookers() {
        Kit kit = Check.kit(4, 5, 0);
        Check.script(kit, 0, 0, 0, 0, 0, 3, 0);
        Check.script(kit, 1, 0, 0, 0, 0, 3, 0, 0, 2, 0);
        Check.script(kit, 2, 0, 0, 0);
        kit.run(2);
        Check.ended(kit, "it waits", 0, 1, 1, 0, 2, 0);
        Check.ended(kit, "another one waits for this", 1, 1, 6, 0, 2, 2);
        Check.due("it looks meanwhile", kit.state(0, 3), 3);
        Check.script(kit, 3, 0, 0, 0);
        kit.run(3);
        Check.ended(kit, "nobody else meanwhile", 3, 0, 1, 0, 3, 0);
        Check.ended(kit, "still one other", 0, 1, 1, 0, 2, 0);
        Check.script(kit, 2, 0, 2, 0);
        kit.run(4);
        Check.ended(kit, "the only looker", 0, 1, 0, 0, 2, 4);
        Check.due("user", kit.state(0, 4), 0);
        Check.due("lookers", kit.state(0, 3), 0);
        Check.line(kit, "the other one still waits", 0, 3);
    }

    private static void upgradeOfTheOnlyLooker() {
        Kit kit = Check.kit(3, 5, 0);
        Check.script(kit, 0, 0, 0, 0, 0, 3, 0);
        Check.script(kit, 1, 0, 1, 0);
        Check.script(kit, 2, 0, 0, 0);
        kit.run(9);
        Check.ended(kit, "ahead of those that wait", 0, 1, 0, 0, 2, 2);
        Check.due("user", kit.state(0, 4), 0);
        Check.line(kit, "they wait", 0, 1, 2);
    }

    private static void upgradeThatGivesUp() {
        Kit kit = Check.kit(3, 5, 0);
        Check.script(kit, 0, 0, 0, 0);
        kit.step(0, 0, 3, 0, 2);
        Check.script(kit, 1, 0, 0, 0);
        kit.run(2);
        Check.script(kit, 2, 0, 0, 0);
        kit.run(3);
        Check.line(kit, "two wait", 0, 0, 2);
        kit.run(4);
        Check.ended(kit, "its patience is over", 0, 1, 3, 0, 2, 4);
        Check.ended(kit, "others are let go again", 2, 0, 0, 0, 3, 4);
        Check.due("it looks all the same", kit.state(0, 3), 3);
        Check.script(kit, 1, 0, 3, 0);
        kit.run(5);
        Check.ended(kit, "another one can wait for this now", 1, 1, 1, 0, 5, 0);
    }

    private static void aFirstThatGivesUp() {
        Kit kit = Check.kit(3, 5, 0);
        Check.script(kit, 0, 0, 0, 0);
        kit.step(1, 0, 1, 0, 3);
        Check.script(kit, 2, 0, 0, 0);
        kit.run(9);
        Check.ended(kit, "its patience is over", 1, 0, 3, 0, 1, 4);
        Check.ended(kit, "the next one is let go", 2, 0, 0, 0, 1, 4);
    }

    private static void downgrade() {
        Kit kit = Check.kit(4, 5, 0);
        Check.script(kit, 0, 0, 1, 0, 0, 4, 0, 0, 4, 0);
        Check.script(kit, 1, 0, 0, 0);
        Check.script(kit, 2, 0, 1, 0);
        Check.script(kit, 3, 0, 4, 0);
        kit.run(1);
        Check.ended(kit, "another one is the user", 3, 0, 6, 0, 1, 1);
        kit.run(2);
        Check.ended(kit, "downgrade", 0, 1, 0, 0, 2, 2);
        Check.ended(kit, "one more may look", 1, 0, 0, 0, 1, 2);
        Check.due("lookers", kit.state(0, 3), 2);
        Check.due("user", kit.state(0, 4), MeetingKit.NONE);
        Check.line(kit, "the next user waits", 0, 2);
        kit.run(3);
        Check.ended(kit, "no user any more", 0, 2, 6, 0, 3, 3);
    }

    private static void keptInterrupt() {
        Kit kit = Check.kit(2, 5, 0);
        Check.script(kit, 0, 0, 0, 0, 0, 3, 0, 0, 4, 0, 0, 2, 0, 0, 1, 0, 0, 4, 0, 0, 3, 0);
        kit.interrupt(0, 1);
        kit.run(6);
        Check.ended(kit, "use", 0, 4, 0, 0, 5, 5);
        Check.due("none of these waits", kit.tell(0, 3), 1);
        Check.script(kit, 1, 0, 0, 0);
        kit.run(7);
        Check.ended(kit, "nor the upgrade of the only looker", 0, 6, 0, 0, 7, 7);
        Check.due("kept", kit.tell(0, 3), 1);
        Check.script(kit, 0, 0, 4, 0, 0, 3, 0);
        kit.run(9);
        Check.ended(kit, "another one looks", 1, 0, 0, 0, 7, 8);
        Check.ended(kit, "so this one would wait", 0, 8, 2, 0, 9, 9);
        Check.due("used up", kit.tell(0, 3), 0);
        Check.due("it looks all the same", kit.state(0, 3), 2);
    }
}
