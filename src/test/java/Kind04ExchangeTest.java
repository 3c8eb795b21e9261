/** Kind 4: an exchange of pairs. */
public final class Kind04ExchangeTest {
    public static void main(String[] args) {
        Kit kit = Check.kit(3, 4, 0);
        Check.script(kit, 0, 0, 0, -1000000, 0, 1, 0);
        Check.script(kit, 1, 0, 0, 1000000);
        Check.script(kit, 2, 0, 0, 5);
        kit.run(1);
        Check.ended(kit, "the one that waited", 0, 0, 0, 1000000, 1, 1);
        Check.ended(kit, "the one that came", 1, 0, 0, -1000000, 1, 1);
        Check.line(kit, "the third waits", 0, 2);
        Check.passed(kit, "the one that came is ahead", 0, 1, 0);
        kit.run(2);
        Check.ended(kit, "misuse", 0, 1, 6, 0, 2, 2);
        kit.interrupt(2, 3);
        Check.script(kit, 1, 0, 2, 0, 0, 0, 8);
        kit.run(9);
        Check.ended(kit, "interrupted", 2, 0, 2, 0, 1, 3);
        Check.ended(kit, "nobody waits any more", 1, 2, 1, 0, 4, 0);
        Check.end("exchange");
    }
}
