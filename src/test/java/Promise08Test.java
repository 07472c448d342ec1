/** Promise 8: join. */
public final class Promise08Test extends Promise {
    private static final String OF_CRAFT = "NO_SUCH if there is no such craft";
    private static final String IN_RANGE = "BAD_VALUE if rank is out of range";
    private static final String AT_MOST_10 = "TOO_MANY if there are 10.";

    public static void main(String[] args) throws ReflectiveOperationException {
        run(Promise08Test.class);
    }

    @Sentence("A member comes.")
    static void withCraftAndRankAndNoDeeds() {
        LayeredCharters x = busy();
        is(x.join(3, 7), 2);
        is(x.count(7), 3);
        same(told(x, 2), "3 7 0 0");
        same(told(x, 0), told(busy(), 0));
        same(told(x, 1), told(busy(), 1));
    }

    @Sentence("5 crafts, 0 to 4")
    static void crafts0To4() {
        LayeredCharters x = new LayeredCharters();
        for (int craft = 0; craft <= 4; craft++) {
            is(x.join(craft, 0), craft);
            is(x.member(craft, 0), craft);
        }
    }

    @Sentence("`rank`: 0 to 9")
    static void ranks0To9() {
        LayeredCharters x = new LayeredCharters();
        for (int rank = 0; rank <= 9; rank++) {
            is(x.join(0, rank), rank);
            is(x.member(rank, 1), rank);
        }
    }

    @Sentence("Everything is numbered from 0.")
    static void theFirstIs0() {
        is(new LayeredCharters().join(0, 0), 0);
    }

    @Sentence("Returns its number")
    static void theLastIs9() {
        LayeredCharters x = new LayeredCharters();
        for (int i = 0; i < 10; i++) is(x.join(i % 5, 9 - i), i);
        for (int i = 0; i < 10; i++) same(told(x, i), i % 5 + " " + (9 - i) + " 0 0");
        is(x.member(10, 0), NO_SUCH);
    }

    @Sentence("numbered in the order in which they came (when one leaves, those behind get numbers that are 1 less)")
    static void theNextComesBehindThoseThatAreLeft() {
        LayeredCharters x = busy();
        x.leave(0);
        is(x.join(2, 2), 1);
        same(told(x, 0), "1 6 1 0");
        same(told(x, 1), "2 2 0 0");
    }

    @Sentence("A member comes.")
    static void withoutTheDeedsOfOneWhoLeft() {
        LayeredCharters x = charter("0p0*");
        for (int i = 0; i < 10; i++) x.join(0, 0);
        x.act(9, 0);
        x.act(9, 0);
        x.leave(9);
        is(x.join(1, 1), 9);
        same(told(x, 9), "1 1 0 0");
        x.act(9, 0);
        x.leave(9);
        is(x.join(2, 2), 9);
        same(told(x, 9), "2 2 0 0");
    }

    @Sentence(OF_CRAFT)
    static void craftTooSmall() {
        for (int craft : below(0)) refuses(Promise::busy, x -> x.join(craft, 5), NO_SUCH);
    }

    @Sentence(OF_CRAFT)
    static void craftTooLarge() {
        for (int craft : above(4)) refuses(Promise::busy, x -> x.join(craft, 5), NO_SUCH);
    }

    @Sentence(IN_RANGE)
    static void rankTooSmall() {
        for (int rank : below(0)) refuses(Promise::busy, x -> x.join(0, rank), BAD_VALUE);
    }

    @Sentence(IN_RANGE)
    static void rankTooLarge() {
        for (int rank : above(9)) refuses(Promise::busy, x -> x.join(0, rank), BAD_VALUE);
    }

    @Sentence(AT_MOST_10)
    static void noEleventh() {
        refuses(Promise::ten, x -> x.join(0, 0), TOO_MANY);
        refuses(Promise::ten, x -> x.join(4, 9), TOO_MANY);
    }

    @Sentence("There are up to 10 members")
    static void all10AreKept() {
        LayeredCharters x = ten();
        is(x.count(7), 10);
        for (int i = 0; i < 10; i++) same(told(x, i), i % 5 + " " + i + " 0 0");
    }

    @Sentence(AT_MOST_10)
    static void roomAgainAfterLeave() {
        LayeredCharters x = ten();
        x.leave(0);
        is(x.join(3, 4), 9);
        same(told(x, 9), "3 4 0 0");
        is(x.join(3, 4), TOO_MANY);
    }

    @Sentence(AT_MOST_10)
    static void roomAgainAfterUndo() {
        LayeredCharters x = ten();
        x.undo();
        is(x.join(3, 4), 9);
        is(x.join(3, 4), TOO_MANY);
    }

    @Sentence(ORDER)
    static void noSuchAheadOfBadValue() {
        refuses(Promise::busy, x -> x.join(5, 10), NO_SUCH);
        refuses(Promise::busy, x -> x.join(-1, -1), NO_SUCH);
    }

    @Sentence(ORDER)
    static void tooManyComesLast() {
        refuses(Promise::ten, x -> x.join(5, 0), NO_SUCH);
        refuses(Promise::ten, x -> x.join(0, 10), BAD_VALUE);
        refuses(Promise::ten, x -> x.join(0, -1), BAD_VALUE);
    }

    @Sentence(CHANGE)
    static void isRecorded() {
        isAChange(Promise::empty, x -> x.join(0, 0));
        isAChange(Promise::busy, x -> x.join(4, 9));
    }
}
