/** Promise 18: ifStruck. */
public final class Promise18Test extends Promise {
    private static final String MORE =
        "Tells how many triples more would be allowed without a rule (a number below 0 if fewer would be).";
    private static final String NONE_SUCH = "NO_SUCH if there is no such rule.";

    public static void main(String[] args) throws ReflectiveOperationException {
        run(Promise18Test.class);
    }

    @Sentence(MORE)
    static void asManyAsThereAreWithoutIt() {
        LayeredCharters x = charter("0p**;1b0*5;2b007;2w1*9;2w009;2b**2");
        int[] want = {766, 1020, 1000, 988, 998, 1036};
        for (int i = 0; i < want.length; i++) {
            is(x.ifStruck(i), want[i]);
            LayeredCharters y = charter("0p**;1b0*5;2b007;2w1*9;2w009;2b**2");
            int before = y.count(6);
            y.strike(i);
            is(y.count(6) - before, want[i] - 1000);
        }
    }

    @Sentence("Returns 1000 and that number, together")
    static void idleOnes() {
        is(charter("0b**9").ifStruck(0), 1000);
        is(charter("0p**;0p00").ifStruck(1), 1000);
        is(charter("0p**;0b**5;0b**5").ifStruck(1), 1000);
        is(charter("0p**;0w**9").ifStruck(1), 1000);
    }

    @Sentence("Returns 1000 and that number, together")
    static void theMostAndTheFewest() {
        is(charter("0p**").ifStruck(0), 700);
        is(charter("0p**;0b**9").ifStruck(1), 1270);
        is(charter("0p**;0b**9;0w**9").ifStruck(2), 730);
    }

    @Sentence("(a number below 0 if fewer would be)")
    static void oneMoreAndOneFewer() {
        is(charter("0p**;0b451").ifStruck(1), 1001);
        is(charter("0p**;0b**1;0w001").ifStruck(2), 999);
        is(charter("0p00;0b009").ifStruck(0), 999);
    }

    @Sentence(MORE)
    static void theFirstAndTheLastOf24() {
        LayeredCharters x = charter("0b**9");
        for (int i = 1; i < 23; i++) x.add(0, 0, 5, 6, 1);
        x.add(4, 2, 5, 6, 9);
        is(x.ifStruck(0), 1270);
        is(x.ifStruck(23), 1000);
        x.move(23, 0);
        is(x.ifStruck(0), 1000);
        is(x.ifStruck(23), 730);
    }

    @Sentence(NONE_SUCH)
    static void noRules() {
        refuses(Promise::empty, x -> x.ifStruck(0), NO_SUCH);
    }

    @Sentence(NONE_SUCH)
    static void ruleTooSmall() {
        for (int rule : below(0)) refuses(Promise::busy, x -> x.ifStruck(rule), NO_SUCH);
    }

    @Sentence(NONE_SUCH)
    static void ruleTooLarge() {
        for (int rule : above(3)) refuses(Promise::busy, x -> x.ifStruck(rule), NO_SUCH);
    }

    @Sentence(NONE_SUCH)
    static void the25thOf24() {
        refuses(Promise::full, x -> x.ifStruck(24), NO_SUCH);
    }

    @Sentence(MORE)
    static void changesNothing() {
        for (int rule : new int[] {0, 1, 2, 3}) leavesAlone(Promise::busy, x -> x.ifStruck(rule));
        leavesAlone(Promise::full, x -> x.ifStruck(0));
    }
}
