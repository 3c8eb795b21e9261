/** The edges of kind 4, an exchange of pairs. */
public final class EdgesOfExchangeTest {
    public static void main(String[] args) {
        nobodyWaits();
        oneWaits();
        pairAfterPair();
        leastAndMost();
        oneThatWaitsNoMore();
        Check.end("edges of the exchange");
    }

    /** Threads that come in beat 1, the first with 10, the second with 11 and so on. */
    private static Kit thatCome(int threads) {
        Kit kit = Check.kit(threads, 4, 0);
        for (int t = 0; t < threads; t++) {
            Check.script(kit, t, 0, 0, 10 + t);
        }
        Check.due("run", kit.run(9), 1);
        return kit;
    }

    /** "if one WAITS both PASS ..; else it WAITS". */
    private static void nobodyWaits() {
        Kit kit = thatCome(1);
        Check.ended(kit, "it waits", 0, 0, 1, 0, 1, 0);
        Check.stuck(kit, "alone", 0);
    }

    /** "if one WAITS both PASS, each with the other one's a as its VALUE". */
    private static void oneWaits() {
        Kit kit = thatCome(2);
        Check.ended(kit, "the first", 0, 0, 0, 11, 1, 1);
        Check.ended(kit, "the second", 1, 0, 0, 10, 1, 1);
        Check.line(kit, "nobody waits", 0);
        Check.passed(kit, "the one that came is ahead", 0, 1, 0);
    }

    /** "if one WAITS": the third finds nobody, the sixteenth one again. */
    private static void pairAfterPair() {
        Check.line(thatCome(3), "the third waits", 0, 2);
        Kit kit = thatCome(16);
        for (int t = 0; t < 16; t++) {
            Check.ended(kit, "in pairs", t, 0, 0, 10 + (t ^ 1), 1, 1);
        }
        Check.line(kit, "nobody waits", 0);
    }

    /** "0 with a": any a that a step may have, 0 too. */
    private static void leastAndMost() {
        int[] numbers = {-1000000, 1000000, 0, -1};
        for (int i = 0; i + 1 < numbers.length; i += 2) {
            Kit kit = Check.kit(2, 4, 0);
            Check.script(kit, 0, 0, 0, numbers[i]);
            Check.script(kit, 1, 0, 0, numbers[i + 1]);
            Check.due("run", kit.run(9), 1);
            Check.ended(kit, "the first", 0, 0, 0, numbers[i + 1]);
            Check.ended(kit, "the second", 1, 0, 0, numbers[i]);
        }
    }

    /** "if one WAITS": one whose patience was over, or that was interrupted at once, does not. */
    private static void oneThatWaitsNoMore() {
        Kit kit = Check.kit(3, 4, 0, 10, 0);
        kit.step(0, 0, 0, 1, 1);
        Check.script(kit, 1, 1, 2, 0, 0, 0, 2);
        Check.due("run", kit.run(9), 2);
        Check.ended(kit, "its patience is over", 0, 0, 3, 0, 1, 2);
        Check.ended(kit, "one beat too late", 1, 1, 1, 0, 2, 0);
        Kit kept = Check.kit(2, 4, 0);
        kept.interrupt(0, 1);
        Check.script(kept, 0, 0, 0, 1);
        Check.script(kept, 1, 0, 0, 2);
        Check.due("run", kept.run(9), 1);
        Check.ended(kept, "interrupted at once", 0, 0, 2, 0, 1, 1);
        Check.ended(kept, "so this one waits", 1, 0, 1, 0, 1, 0);
    }
}
