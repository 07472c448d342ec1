/** Promise 20: bestWaiver. */
public final class Promise20Test extends Promise {
    private static final String BEST = "Finds the layer in which a further waiver for all crafts and deeds with a seal "
        + "would let the most triples be allowed";
    private static final String IN_RANGE = "BAD_VALUE if seal is out of range.";

    public static void main(String[] args) throws ReflectiveOperationException {
        run(Promise20Test.class);
    }

    private static LayeredCharters full(String rules) {
        LayeredCharters x = charter(rules);
        while (x.count(0) < 24) x.add(4, 1, 0, 0, 1);
        return x;
    }

    @Sentence("Returns the layer")
    static void theLayerOfTheOnlyBan() {
        for (int layer = 0; layer <= 4; layer++) {
            LayeredCharters x = charter("0p**;" + layer + "b**5");
            is(x.bestWaiver(5), layer);
            is(x.bestWaiver(9), layer);
        }
    }

    @Sentence(BEST)
    static void asFarOutAsThereIsMoreToWin() {
        LayeredCharters x = charter("0p**;3b005;2b016;1b0*1;0b119");
        for (int seal = 1; seal <= 8; seal++) is(x.bestWaiver(seal), 1);
        is(x.bestWaiver(9), 0);
        is(charter("0p**;3b119;1b001").bestWaiver(1), 1);
        is(charter("0p**;3b119;1b009").bestWaiver(8), 4);
    }

    @Sentence("of several the innermost one")
    static void theInnermostOfSeveral() {
        is(charter("0p**;2b**5;4b**5").bestWaiver(5), 2);
        is(charter("0p**;4b**5;2b**4;2w**4").bestWaiver(5), 4);
        is(charter("0p**;4b**5;0b**5").bestWaiver(5), 0);
    }

    @Sentence("of several the innermost one")
    static void nothingToWinAnywhere() {
        is(new LayeredCharters().bestWaiver(9), 4);
        is(charter("0p**").bestWaiver(1), 4);
        is(charter("0b**9").bestWaiver(9), 4);
        is(charter("0p**;0b**9;0w**9").bestWaiver(9), 4);
    }

    @Sentence(BEST)
    static void sealsAtThatOfTheBanAndBelowIt() {
        for (int seal = 1; seal <= 9; seal++) {
            LayeredCharters x = charter("0p**;1b**" + seal);
            is(x.bestWaiver(seal), 1);
            if (seal > 1) is(x.bestWaiver(seal - 1), 4);
        }
    }

    @Sentence("(also with 24 rules)")
    static void with24Rules() {
        LayeredCharters x = full("0p**;3b**5;2b016");
        is(x.bestWaiver(4), 4);
        is(x.bestWaiver(5), 3);
        is(x.bestWaiver(6), 2);
        is(x.count(0), 24);
        is(x.count(3), 0);
        is(full("0p**;0b**9").bestWaiver(9), 0);
        leavesAlone(() -> full("0p**;3b**5;2b016"), y -> y.bestWaiver(6));
    }

    @Sentence("`seal`: 1 to 9")
    static void seals1To9() {
        LayeredCharters x = charter("0p**;4b001;3b013;2b025;1b037;0b049");
        int[] want = {4, 4, 3, 3, 2, 2, 1, 1, 0};
        for (int seal = 1; seal <= 9; seal++) is(x.bestWaiver(seal), want[seal - 1]);
    }

    @Sentence(IN_RANGE)
    static void sealTooSmall() {
        for (int seal : below(1)) refuses(Promise::busy, x -> x.bestWaiver(seal), BAD_VALUE);
    }

    @Sentence(IN_RANGE)
    static void sealTooLarge() {
        for (int seal : above(9)) refuses(Promise::busy, x -> x.bestWaiver(seal), BAD_VALUE);
    }

    @Sentence(BEST)
    static void changesNothing() {
        for (int seal : new int[] {1, 5, 9}) leavesAlone(Promise::busy, x -> x.bestWaiver(seal));
    }
}
