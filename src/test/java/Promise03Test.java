/** Promise 3: strike. */
public final class Promise03Test extends Promise {
    private static final String NONE_SUCH = "NO_SUCH if there is no such rule.";
    private static final String BEHIND = "when one is struck, those behind it get numbers that are 1 less";

    public static void main(String[] args) throws ReflectiveOperationException {
        run(Promise03Test.class);
    }

    @Sentence("Strikes a rule.")
    static void whatItSaidCountsNoMore() {
        LayeredCharters x = charter("0p**;1b0*5");
        is(x.leastRank(0, 0), 5);
        is(x.strike(1), 1);
        is(x.leastRank(0, 0), 0);
        is(x.strike(0), 0);
        is(x.leastRank(0, 0), NONE);
    }

    @Sentence(BEHIND)
    static void theFirst() {
        LayeredCharters x = busy();
        is(x.strike(0), 3);
        same(fields(x, 0), "1 1 0 6 5");
        same(fields(x, 1), "2 2 0 0 9");
        same(fields(x, 2), "3 1 5 4 6");
        is(x.rule(3, 0), NO_SUCH);
    }

    @Sentence(BEHIND)
    static void oneBetween() {
        LayeredCharters x = busy();
        is(x.strike(1), 3);
        same(fields(x, 0), "0 0 5 6 1");
        same(fields(x, 1), "2 2 0 0 9");
        same(fields(x, 2), "3 1 5 4 6");
    }

    @Sentence(BEHIND)
    static void theLast() {
        LayeredCharters x = busy();
        is(x.strike(3), 3);
        same(fields(x, 0), "0 0 5 6 1");
        same(fields(x, 1), "1 1 0 6 5");
        same(fields(x, 2), "2 2 0 0 9");
        is(x.rule(3, 0), NO_SUCH);
    }

    @Sentence(BEHIND)
    static void whatTheyFitGoesWithThem() {
        LayeredCharters x = charter("0p12;3b*45;2w3*9;4b013");
        x.strike(0);
        is(x.rule(0, 7), 5);
        is(x.rule(1, 7), 6);
        is(x.rule(2, 7), 1);
    }

    @Sentence("Returns how many rules are left")
    static void theOnlyOne() {
        LayeredCharters x = charter("0p**");
        is(x.strike(0), 0);
        is(x.count(0), 0);
        is(x.rule(0, 0), NO_SUCH);
    }

    @Sentence("Returns how many rules are left")
    static void allOf24() {
        LayeredCharters x = full();
        for (int left = 23; left >= 0; left--) is(x.strike(left % 3 == 0 ? left : 0), left);
        is(x.strike(0), NO_SUCH);
    }

    @Sentence(BEHIND)
    static void theFirstOf24() {
        LayeredCharters x = full();
        is(x.strike(0), 23);
        for (int i = 0; i < 23; i++) same(fields(x, i), fields(full(), i + 1));
    }

    @Sentence(BEHIND)
    static void theLastOf24() {
        LayeredCharters x = full();
        is(x.strike(23), 23);
        for (int i = 0; i < 23; i++) same(fields(x, i), fields(full(), i));
    }

    @Sentence(NONE_SUCH)
    static void noRules() {
        refuses(Promise::empty, x -> x.strike(0), NO_SUCH);
    }

    @Sentence(NONE_SUCH)
    static void ruleTooSmall() {
        for (int rule : below(0)) refuses(Promise::busy, x -> x.strike(rule), NO_SUCH);
    }

    @Sentence(NONE_SUCH)
    static void ruleTooLarge() {
        for (int rule : above(3)) refuses(Promise::busy, x -> x.strike(rule), NO_SUCH);
    }

    @Sentence(NONE_SUCH)
    static void the25thOf24() {
        refuses(Promise::full, x -> x.strike(24), NO_SUCH);
        refuses(Promise::full, x -> x.strike(25), NO_SUCH);
    }

    @Sentence(CHANGE)
    static void isRecorded() {
        isAChange(Promise::busy, x -> x.strike(0));
        isAChange(Promise::full, x -> x.strike(11));
        isAChange(() -> charter("0p**"), x -> x.strike(0));
    }
}
