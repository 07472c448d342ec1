/** Promise 4: seal. */
public final class Promise04Test extends Promise {
    private static final String NONE_SUCH = "NO_SUCH if there is no such rule";
    private static final String IN_RANGE = "BAD_VALUE if seal is out of range.";

    public static void main(String[] args) throws ReflectiveOperationException {
        run(Promise04Test.class);
    }

    @Sentence("Changes the seal of a rule.")
    static void changesThatRuleAlone() {
        LayeredCharters x = busy();
        is(x.seal(1, 8), 5);
        same(fields(x, 0), "0 0 5 6 1");
        same(fields(x, 1), "1 1 0 6 8");
        same(fields(x, 2), "2 2 0 0 9");
        same(fields(x, 3), "3 1 5 4 6");
    }

    @Sentence("Changes the seal of a rule.")
    static void banHoldsByItsNewSeal() {
        LayeredCharters x = charter("0p**;0b**4");
        x.seal(1, 7);
        is(x.why(0, 0, 6), 1);
        is(x.why(0, 0, 7), NONE);
        x.seal(1, 1);
        is(x.why(0, 0, 0), 1);
        is(x.why(0, 0, 1), NONE);
    }

    @Sentence("Changes the seal of a rule.")
    static void waiverLiftsByItsNewSeal() {
        LayeredCharters x = charter("0p**;0b**4;0w**3");
        is(x.why(0, 0, 0), 1);
        x.seal(2, 4);
        is(x.why(0, 0, 0), NONE);
        x.seal(2, 3);
        is(x.why(0, 0, 0), 1);
    }

    @Sentence("`seal`: 1 to 9")
    static void seals1To9() {
        LayeredCharters x = charter("0p**;0b**5");
        for (int seal = 1; seal <= 9; seal++) {
            is(x.seal(1, seal), seal == 1 ? 5 : seal - 1);
            is(x.rule(1, 4), seal);
        }
    }

    @Sentence("Returns the seal before")
    static void fromTheLeastToTheGreatestAndBack() {
        LayeredCharters x = charter("4b**1");
        is(x.seal(0, 9), 1);
        is(x.seal(0, 1), 9);
        is(x.seal(0, 1), 1);
    }

    @Sentence("permits are of the layer 0 alone, and their seal does not matter")
    static void aPermitHasOneToo() {
        LayeredCharters x = charter("0b**5;0p**");
        is(x.seal(1, 9), 1);
        is(x.rule(1, 4), 9);
        is(x.count(6), 150);
        is(x.seal(1, 1), 9);
        is(x.count(6), 150);
    }

    @Sentence(NONE_SUCH)
    static void noRules() {
        refuses(Promise::empty, x -> x.seal(0, 5), NO_SUCH);
    }

    @Sentence(NONE_SUCH)
    static void ruleTooSmall() {
        for (int rule : below(0)) refuses(Promise::busy, x -> x.seal(rule, 5), NO_SUCH);
    }

    @Sentence(NONE_SUCH)
    static void ruleTooLarge() {
        for (int rule : above(3)) refuses(Promise::busy, x -> x.seal(rule, 5), NO_SUCH);
    }

    @Sentence(NONE_SUCH)
    static void theLastOf24AndBehindIt() {
        is(full().seal(23, 9), 1 + 23 % 9);
        refuses(Promise::full, x -> x.seal(24, 5), NO_SUCH);
    }

    @Sentence(IN_RANGE)
    static void sealTooSmall() {
        for (int seal : below(1)) refuses(Promise::busy, x -> x.seal(1, seal), BAD_VALUE);
    }

    @Sentence(IN_RANGE)
    static void sealTooLarge() {
        for (int seal : above(9)) refuses(Promise::busy, x -> x.seal(1, seal), BAD_VALUE);
    }

    @Sentence(IN_RANGE)
    static void sealOfAPermitOutOfRange() {
        refuses(Promise::busy, x -> x.seal(0, 0), BAD_VALUE);
        refuses(Promise::busy, x -> x.seal(0, 10), BAD_VALUE);
    }

    @Sentence(ORDER)
    static void noSuchAheadOfBadValue() {
        refuses(Promise::busy, x -> x.seal(-1, 0), NO_SUCH);
        refuses(Promise::busy, x -> x.seal(4, 10), NO_SUCH);
    }

    @Sentence(CHANGE)
    static void isRecorded() {
        isAChange(Promise::busy, x -> x.seal(3, 9));
        isAChange(() -> charter("0p**;0b**5"), x -> x.seal(1, 9));
    }

    @Sentence(CHANGE)
    static void isRecordedWithTheSameSeal() {
        isAChange(() -> charter("0p**;0b**5"), x -> x.seal(1, 5));
    }
}
