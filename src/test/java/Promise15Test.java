/** Promise 15: why. */
public final class Promise15Test extends Promise {
    private static final String OF_WHAT = "NO_SUCH if there is no such craft or deed";
    private static final String IN_RANGE = "BAD_VALUE if rank is not 0 to 9";
    private static final String REASON = "if it is permitted, but forbidden, the reason is the number of the ban that holds, "
        + "of several one of the outermost layer, of these the one with the lowest number.";

    public static void main(String[] args) throws ReflectiveOperationException {
        run(Promise15Test.class);
    }

    @Sentence("Tells why a deed is not allowed.")
    static void forItsCraftDeedAndRank() {
        LayeredCharters x = charter("1b*25;0p*2;3b027");
        is(x.why(0, 2, 4), 0);
        is(x.why(0, 2, 5), 2);
        is(x.why(0, 2, 6), 2);
        is(x.why(0, 2, 7), NONE);
        is(x.why(4, 2, 4), 0);
        is(x.why(4, 2, 5), NONE);
        is(x.why(0, 1, 9), 100);
    }

    @Sentence("If it is not permitted, the reason is 100")
    static void lackOfAPermit() {
        is(new LayeredCharters().why(0, 0, 0), 100);
        is(charter("0p01;0p10").why(0, 0, 9), 100);
        is(charter("0w**9").why(4, 5, 9), 100);
    }

    @Sentence("If it is not permitted, the reason is 100")
    static void lackOfAPermitAheadOfBans() {
        LayeredCharters x = charter("0b**9;0p0*");
        is(x.why(1, 0, 0), 100);
        is(x.why(0, 0, 0), 0);
    }

    @Sentence("Returns the reason: 100, or the number of a ban")
    static void theNumbers0And23() {
        LayeredCharters x = charter("0b**1");
        for (int i = 1; i < 23; i++) x.add(0, 0, 5, 6, 1);
        x.add(4, 1, 5, 6, 9);
        is(x.why(0, 0, 0), 0);
        is(x.why(0, 0, 1), 23);
        is(x.why(4, 5, 8), 23);
        is(x.why(4, 5, 9), NONE);
    }

    @Sentence(REASON)
    static void theOutermostLayerAheadOfTheLowestNumber() {
        LayeredCharters x = charter("0p**;4b**9;3b**9;2b**9;1b**9;0b**9");
        for (int rule = 5; rule >= 1; rule--) {
            is(x.why(0, 0, 0), rule);
            x.strike(rule);
        }
        is(x.why(0, 0, 0), NONE);
    }

    @Sentence(REASON)
    static void ofOneLayerTheLowestNumber() {
        LayeredCharters x = charter("0p**;3b**9;2b**1;2b**9;2b**5");
        is(x.why(0, 0, 0), 2);
        is(x.why(0, 0, 1), 3);
        x.strike(2);
        is(x.why(0, 0, 0), 2);
        is(x.why(0, 0, 8), 2);
    }

    @Sentence(REASON)
    static void ofThoseThatHoldAlone() {
        LayeredCharters x = charter("0p**;0b**3;1b**5;2b**7;1w**5");
        is(x.why(0, 0, 2), 1);
        is(x.why(0, 0, 3), 3);
        is(x.why(0, 0, 6), 3);
        is(x.why(0, 0, 7), NONE);
    }

    @Sentence(REASON)
    static void ofThoseThatFitAlone() {
        LayeredCharters x = charter("0p**;0b019;0b109;1b009");
        is(x.why(0, 0, 0), 3);
        is(x.why(0, 1, 0), 1);
        is(x.why(1, 0, 0), 2);
        is(x.why(1, 1, 0), NONE);
    }

    @Sentence("NONE if it is allowed.")
    static void allowed() {
        is(charter("0p**").why(0, 0, 0), NONE);
        is(charter("0p**;0b**9").why(4, 5, 9), NONE);
        is(charter("0p**;0b**9;0w**9").why(4, 5, 0), NONE);
    }

    @Sentence("NONE (-6) is not an error; it is returned only if no error applies.")
    static void noNoneForABadValue() {
        refuses(() -> charter("0p**"), x -> x.why(0, 0, 10), BAD_VALUE);
        refuses(() -> charter("0p**"), x -> x.why(5, 0, 0), NO_SUCH);
    }

    @Sentence(OF_WHAT)
    static void craftTooSmall() {
        for (int craft : below(0)) refuses(Promise::busy, x -> x.why(craft, 0, 0), NO_SUCH);
    }

    @Sentence(OF_WHAT)
    static void craftTooLarge() {
        for (int craft : above(4)) refuses(Promise::busy, x -> x.why(craft, 0, 0), NO_SUCH);
    }

    @Sentence(OF_WHAT)
    static void deedTooSmall() {
        for (int deed : below(0)) refuses(Promise::busy, x -> x.why(0, deed, 0), NO_SUCH);
    }

    @Sentence(OF_WHAT)
    static void deedTooLarge() {
        for (int deed : above(5)) refuses(Promise::busy, x -> x.why(0, deed, 0), NO_SUCH);
    }

    @Sentence(IN_RANGE)
    static void rankTooSmall() {
        for (int rank : below(0)) refuses(Promise::busy, x -> x.why(0, 0, rank), BAD_VALUE);
    }

    @Sentence(IN_RANGE)
    static void rankTooLarge() {
        for (int rank : above(9)) refuses(Promise::busy, x -> x.why(0, 0, rank), BAD_VALUE);
    }

    @Sentence(ORDER)
    static void noSuchAheadOfBadValue() {
        refuses(Promise::busy, x -> x.why(5, 0, 10), NO_SUCH);
        refuses(Promise::busy, x -> x.why(0, 6, -1), NO_SUCH);
        refuses(Promise::empty, x -> x.why(0, 0, 10), BAD_VALUE);
    }

    @Sentence("Tells why a deed is not allowed.")
    static void changesNothing() {
        leavesAlone(Promise::busy, x -> x.why(0, 1, 4));
        leavesAlone(Promise::busy, x -> x.why(0, 1, 9));
    }
}
