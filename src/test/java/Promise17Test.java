/** Promise 17: leastRank. */
public final class Promise17Test extends Promise {
    private static final String LEAST = "Finds the least rank with which a deed is allowed for a craft.";
    private static final String OF_WHAT = "NO_SUCH if there is no such craft or deed";

    public static void main(String[] args) throws ReflectiveOperationException {
        run(Promise17Test.class);
    }

    @Sentence(LEAST)
    static void itIsAllowedFromThereOn() {
        LayeredCharters x = charter("0p**;1b0*3;3b*15;4b019;2w*05");
        for (int i = 0; i < 30; i++) {
            int least = x.leastRank(i / 6, i % 6);
            for (int rank = 0; rank <= 9; rank++) is(x.allowed(i / 6, i % 6, rank, 1), rank >= least ? 1 : 0);
        }
    }

    @Sentence(LEAST)
    static void ofSeveralBansTheGreatestSealCounts() {
        is(charter("0p**;0b**3;4b**8;2b**5").leastRank(0, 0), 8);
        is(charter("0p**;4b**8;0b**3;2b**5").leastRank(4, 5), 8);
    }

    @Sentence(LEAST)
    static void liftedBansDoNotCount() {
        is(charter("0p**;0b**3;4b**8;4w**9").leastRank(0, 0), 3);
        is(charter("0p**;0b**3;4b**8;0w**3").leastRank(0, 0), 8);
        is(charter("0p**;0b**3;4b**8;0w**8").leastRank(0, 0), 0);
        is(charter("0p**;4b**8;4w009").leastRank(0, 1), 8);
    }

    @Sentence("Returns the rank, 0 to 9")
    static void from0To9() {
        is(charter("0p**").leastRank(0, 0), 0);
        for (int seal = 1; seal <= 9; seal++) {
            is(charter("0p**;2b**" + seal).leastRank(0, 0), seal);
            is(charter("0p45;4b45" + seal).leastRank(4, 5), seal);
        }
    }

    @Sentence("NONE if there is none.")
    static void withoutAPermit() {
        is(new LayeredCharters().leastRank(0, 0), NONE);
        is(charter("0p01;0p10;0w**9").leastRank(0, 0), NONE);
        is(charter("0b**1").leastRank(4, 5), NONE);
    }

    @Sentence(OF_WHAT)
    static void craftTooSmall() {
        for (int craft : below(0)) refuses(Promise::busy, x -> x.leastRank(craft, 0), NO_SUCH);
    }

    @Sentence(OF_WHAT)
    static void craftTooLarge() {
        for (int craft : above(4)) refuses(Promise::busy, x -> x.leastRank(craft, 0), NO_SUCH);
    }

    @Sentence(OF_WHAT)
    static void deedTooSmall() {
        for (int deed : below(0)) refuses(Promise::busy, x -> x.leastRank(0, deed), NO_SUCH);
    }

    @Sentence(OF_WHAT)
    static void deedTooLarge() {
        for (int deed : above(5)) refuses(Promise::busy, x -> x.leastRank(0, deed), NO_SUCH);
    }

    @Sentence("NONE (-6) is not an error; it is returned only if no error applies.")
    static void noNoneForWhatThereIsNot() {
        refuses(Promise::empty, x -> x.leastRank(5, 0), NO_SUCH);
        refuses(Promise::empty, x -> x.leastRank(0, 6), NO_SUCH);
    }

    @Sentence(LEAST)
    static void changesNothing() {
        leavesAlone(Promise::busy, x -> x.leastRank(0, 0));
        leavesAlone(Promise::full, x -> x.leastRank(4, 5));
    }
}
