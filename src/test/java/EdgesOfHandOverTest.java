/** The edges of kind 6, a hand-over of bounded room. */
public final class EdgesOfHandOverTest {
    private static final int PUT = 0;
    private static final int TAKE = 1;

    public static void main(String[] args) {
        noRoom();
        roomFilledUp();
        behindTheOthers();
        roundAndRound();
        putForTheFirstThatWaits();
        takeFromEmpty();
        takeLetsOneThatPutsGo();
        takeFromOneThatPuts();
        leastAndMost();
        thoseThatWaitNoMore();
        Check.end("edges of the hand-over");
    }

    /** A hand-over of some room into which thread 0 put 1, 2 and so on. */
    private static Kit holding(int room, int goods) {
        Kit kit = Check.kit(5, 6, room);
        for (int good = 1; good <= goods; good++) {
            Check.then(kit, 0, PUT, good);
        }
        Check.due("so much lies there", kit.state(0, 3), goods);
        return kit;
    }

    /** "n its room (0 .. 8)": none at all. */
    private static void noRoom() {
        Kit kit = holding(0, 0);
        Check.then(kit, 0, PUT, 5);
        Check.ended(kit, "it waits", 0, 0, 1, 0, 1, 0);
        Check.state(kit, "nothing lies there", 0, 6, 1, 0, 0);
    }

    /** "if there is room, a lies there behind the others; else it WAITS": the last room, and none. */
    private static void roomFilledUp() {
        for (int room = 1; room <= 8; room++) {
            Kit kit = holding(room, room - 1);
            Check.then(kit, 1, PUT, 77);
            Check.outcomes(kit, "the last room", 1, 0);
            Check.due("full", kit.state(0, 3), room);
            Check.then(kit, 2, PUT, 78);
            Check.outcomes(kit, "no room", 2, 1);
            Check.state(kit, "full", 0, 6, 1, 0, room);
        }
    }

    /** "behind the others": from a full one they come as they were put. */
    private static void behindTheOthers() {
        Kit kit = holding(8, 8);
        for (int good = 1; good <= 8; good++) {
            Check.then(kit, 1, TAKE, 0);
        }
        Check.values(kit, "as they were put", 1, 1, 2, 3, 4, 5, 6, 7, 8);
        Check.due("empty", kit.state(0, 3), 0);
        Check.then(kit, 1, TAKE, 0);
        Check.outcomes(kit, "no ninth", 1, 0, 0, 0, 0, 0, 0, 0, 0, 1);
    }

    /** "behind the others": however often its room was filled and emptied. */
    private static void roundAndRound() {
        for (int room = 1; room <= 8; room++) {
            Kit kit = holding(room, room);
            for (int i = 0; i < 10; i++) {
                Check.then(kit, 1, TAKE, 0);
                Check.then(kit, 2, PUT, 100 + i);
                Check.due("full", kit.state(0, 3), room);
            }
            for (int i = 0; i < 10; i++) {
                Check.due("room " + room, kit.outcome(1, i, 1), i < room ? i + 1 : 100 + i - room);
            }
        }
    }

    /** "0 put a: if one WAITS to take it has a as its VALUE, both PASS": the first; nothing lies there. */
    private static void putForTheFirstThatWaits() {
        for (int room = 0; room <= 8; room += 8) {
            Kit kit = holding(room, 0);
            Check.then(kit, 2, TAKE, 0);
            Check.then(kit, 1, TAKE, 0);
            Check.then(kit, 3, PUT, 7);
            Check.ended(kit, "the first that waits", 2, 0, 0, 7, 1, 3);
            Check.ended(kit, "both pass", 3, 0, 0, 0, 3, 3);
            Check.state(kit, "the second waits, nothing lies there", 0, 6, 1, 0, 0);
            Check.then(kit, 3, PUT, 8);
            Check.ended(kit, "the second", 1, 0, 0, 8, 2, 4);
            Check.then(kit, 3, PUT, 9);
            Check.ended(kit, "nobody waits to take", 3, 2, room == 0 ? 1 : 0, 0, 5, room == 0 ? 0 : 5);
            Check.due("lies there if there is room", kit.state(0, 3), room == 0 ? 0 : 1);
            Check.due("the one that put is ahead", kit.passed(0, 0), 3);
        }
    }

    /** "1 take: .. else it WAITS": nothing lies there, nobody waits to put. */
    private static void takeFromEmpty() {
        Kit kit = holding(1, 1);
        Check.then(kit, 1, TAKE, 0);
        Check.ended(kit, "the last one", 1, 0, 0, 1, 2, 2);
        Check.then(kit, 1, TAKE, 0);
        Check.ended(kit, "none", 1, 1, 1, 0, 3, 0);
    }

    /** "then the first that WAITS to put puts its own and PASSES": the first alone, behind the others. */
    private static void takeLetsOneThatPutsGo() {
        Kit kit = holding(2, 2);
        Check.then(kit, 2, PUT, 30);
        Check.then(kit, 1, PUT, 40);
        Check.then(kit, 3, TAKE, 0);
        Check.ended(kit, "the first that lies there", 3, 0, 0, 1, 5, 5);
        Check.ended(kit, "the first that waits", 2, 0, 0, 0, 3, 5);
        Check.line(kit, "the second waits", 0, 1);
        Check.due("full again", kit.state(0, 3), 2);
        Check.passed(kit, "the taker is ahead", 0, 0, 0, 3, 2);
        for (int i = 0; i < 4; i++) {
            Check.then(kit, 3, TAKE, 0);
        }
        Check.values(kit, "in order", 3, 1, 2, 30, 40, 0);
        Check.outcomes(kit, "and no more", 3, 0, 0, 0, 0, 1);
    }

    /** "if none lies there and one WAITS to put (the first), its a, both PASS". */
    private static void takeFromOneThatPuts() {
        Kit kit = holding(0, 0);
        Check.then(kit, 2, PUT, 30);
        Check.then(kit, 1, PUT, 40);
        Check.then(kit, 3, TAKE, 0);
        Check.ended(kit, "the first's", 3, 0, 0, 30, 3, 3);
        Check.ended(kit, "both pass", 2, 0, 0, 0, 1, 3);
        Check.line(kit, "the second waits", 0, 1);
        Check.passed(kit, "the taker is ahead", 0, 3, 2);
        Check.then(kit, 3, TAKE, 0);
        Check.then(kit, 3, TAKE, 0);
        Check.outcomes(kit, "two, and none is left", 3, 0, 0, 1);
    }

    /** "0 put a": any a that a step may have, 0 too. */
    private static void leastAndMost() {
        int[] numbers = {-1000000, 1000000, 0};
        for (int a : numbers) {
            for (int room = 0; room < 2; room++) {
                Kit kit = holding(room, 0);
                Check.then(kit, 1, PUT, a);
                Check.then(kit, 2, TAKE, 0);
                Check.ended(kit, "put first", 2, 0, 0, a, 2, 2);
                Check.then(kit, 2, TAKE, 0);
                Check.then(kit, 1, PUT, a);
                Check.ended(kit, "taken first", 2, 1, 0, a, 3, 4);
            }
        }
    }

    /** "the first that WAITS to put", "if one WAITS to take": those whose patience was over do not. */
    private static void thoseThatWaitNoMore() {
        Kit kit = holding(1, 1);
        kit.step(1, 0, PUT, 5, 1);
        Check.due("run", kit.run(50), 3);
        Check.then(kit, 2, TAKE, 0);
        Check.state(kit, "its own does not lie there", 0, 6, 0, 0, 0);
        kit.step(3, 0, TAKE, 0, 1);
        Check.due("run", kit.run(50), 6);
        Check.then(kit, 2, PUT, 6);
        Check.ended(kit, "its patience is over", 3, 0, 3, 0, 5, 6);
        Check.state(kit, "so it lies there", 0, 6, 0, 0, 1);
    }
}
