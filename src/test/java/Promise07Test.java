/** Promise 7: tidy. */
public final class Promise07Test extends Promise {
    private static final String LOWEST = "the one with the lowest number that is idle then, until none is.";

    public static void main(String[] args) throws ReflectiveOperationException {
        run(Promise07Test.class);
    }

    @Sentence("Strikes all rules that are idle, one after the other")
    static void thoseThatAreIdleAndNoOther() {
        LayeredCharters x = charter("0p0*;0p00;2b005;1b004;3w009;0p1*");
        is(x.tidy(), 3);
        is(x.count(0), 3);
        same(fields(x, 0), "0 0 0 6 1");
        same(fields(x, 1), "2 1 0 0 5");
        same(fields(x, 2), "0 0 1 6 1");
    }

    @Sentence("Strikes all rules that are idle, one after the other")
    static void notTwoThatAreIdleOnlyBesideEachOther() {
        LayeredCharters x = charter("0p**;1b**5;1b**5");
        is(x.count(4), 2);
        is(x.tidy(), 1);
        is(x.count(6), 150);
    }

    @Sentence(LOWEST)
    static void ofTwoOfTheSameTheFirst() {
        LayeredCharters x = charter("0p**;3b**5;1b**5");
        is(x.tidy(), 1);
        same(fields(x, 1), "1 1 5 6 5");
        x = charter("0p**;1b**5;3b**5");
        is(x.tidy(), 1);
        same(fields(x, 1), "3 1 5 6 5");
    }

    @Sentence(LOWEST)
    static void oneBeforeItThatGetsIdleComesNext() {
        LayeredCharters x = charter("0p**;0b**9;4w**9;4b**9");
        is(x.rule(1, 5), 0);
        is(x.rule(2, 5), 1);
        is(x.rule(3, 5), 1);
        is(x.tidy(), 2);
        is(x.count(0), 2);
        same(fields(x, 1), "4 1 5 6 9");
    }

    @Sentence(LOWEST)
    static void untilNoneIs() {
        LayeredCharters x = full();
        is(x.tidy() > 0 ? 1 : 0, 1);
        is(x.count(4), 0);
        for (int i = 0; i < x.count(0); i++) is(x.rule(i, 5), 0);
        is(x.tidy(), 0);
    }

    @Sentence(LOWEST)
    static void whatIsAllowedStays() {
        LayeredCharters x = full();
        int triples = x.count(6);
        x.tidy();
        is(x.count(6), triples);
        for (int i = 0; i < 30; i++) is(x.leastRank(i / 6, i % 6), full().leastRank(i / 6, i % 6));
    }

    @Sentence("Returns how many are struck.")
    static void noRules() {
        is(new LayeredCharters().tidy(), 0);
    }

    @Sentence("Returns how many are struck.")
    static void noneIdle() {
        LayeredCharters x = charter("0p**;1b**5");
        is(x.tidy(), 0);
        is(x.count(0), 2);
    }

    @Sentence("Returns how many are struck.")
    static void all24() {
        LayeredCharters x = new LayeredCharters();
        for (int i = 0; i < 24; i++) x.add(i % 5, 1 + i % 2, 5, 6, 9);
        is(x.tidy(), 24);
        is(x.count(0), 0);
    }

    @Sentence("Returns how many are struck.")
    static void allOf24ButTheLast() {
        LayeredCharters x = new LayeredCharters();
        for (int i = 0; i < 24; i++) x.add(0, 0, 5, 6, 1 + i % 9);
        is(x.tidy(), 23);
        same(fields(x, 0), "0 0 5 6 " + (1 + 23 % 9));
    }

    @Sentence("Returns how many are struck.")
    static void theLastOf24Alone() {
        LayeredCharters x = new LayeredCharters();
        for (int i = 0; i < 23; i++) x.add(0, 0, i / 6, i % 6, 1);
        x.add(4, 2, 5, 6, 9);
        is(x.tidy(), 1);
        is(x.count(0), 23);
        is(x.count(3), 0);
    }

    @Sentence(CHANGE)
    static void isRecorded() {
        isAChange(() -> charter("0p**;1b**5;1b**5;4w**1"), LayeredCharters::tidy);
        isAChange(Promise::full, LayeredCharters::tidy);
        isAChange(Promise::busy, LayeredCharters::tidy);
    }

    @Sentence(CHANGE)
    static void isRecordedWhenNoneIsStruck() {
        isAChange(Promise::empty, LayeredCharters::tidy);
        isAChange(() -> charter("0p**"), LayeredCharters::tidy);
    }

    @Sentence(CHANGE)
    static void isOneChangeForAllThatAreStruck() {
        LayeredCharters x = charter("0b**1;0b**2;0b**3");
        is(x.tidy(), 3);
        is(x.count(16), 4);
        is(x.undo(), 3);
        is(x.count(0), 3);
    }
}
