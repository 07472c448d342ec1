/** Promise 10: rank. */
public final class Promise10Test extends Promise {
    private static final String NONE_SUCH = "NO_SUCH if there is no such member";
    private static final String IN_RANGE = "BAD_VALUE if rank is out of range.";

    public static void main(String[] args) throws ReflectiveOperationException {
        run(Promise10Test.class);
    }

    @Sentence("Changes the rank of a member.")
    static void ofThatMemberAlone() {
        LayeredCharters x = busy();
        is(x.rank(0, 8), 4);
        same(told(x, 0), "0 8 0 1");
        same(told(x, 1), "1 6 1 0");
    }

    @Sentence("Changes the rank of a member.")
    static void itMayDoWhatTheNewRankMay() {
        LayeredCharters x = charter("0p**;0b**5");
        x.join(0, 4);
        is(x.act(0, 0), 1);
        x.rank(0, 5);
        is(x.act(0, 0), NONE);
        x.rank(0, 4);
        is(x.act(0, 0), 1);
        is(x.member(0, 2), 0);
    }

    @Sentence("`rank`: 0 to 9")
    static void ranks0To9() {
        LayeredCharters x = new LayeredCharters();
        x.join(0, 5);
        for (int rank = 0; rank <= 9; rank++) {
            is(x.rank(0, rank), rank == 0 ? 5 : rank - 1);
            is(x.member(0, 1), rank);
        }
    }

    @Sentence("Returns the rank before")
    static void fromTheLeastToTheGreatestAndBack() {
        LayeredCharters x = new LayeredCharters();
        x.join(0, 0);
        is(x.rank(0, 9), 0);
        is(x.rank(0, 0), 9);
        is(x.rank(0, 0), 0);
    }

    @Sentence(NONE_SUCH)
    static void noMembers() {
        refuses(Promise::empty, x -> x.rank(0, 5), NO_SUCH);
    }

    @Sentence(NONE_SUCH)
    static void memberTooSmall() {
        for (int member : below(0)) refuses(Promise::busy, x -> x.rank(member, 5), NO_SUCH);
    }

    @Sentence(NONE_SUCH)
    static void memberTooLarge() {
        for (int member : above(1)) refuses(Promise::busy, x -> x.rank(member, 5), NO_SUCH);
    }

    @Sentence(NONE_SUCH)
    static void theLastOf10AndBehindIt() {
        is(ten().rank(9, 0), 9);
        refuses(Promise::ten, x -> x.rank(10, 0), NO_SUCH);
    }

    @Sentence(IN_RANGE)
    static void rankTooSmall() {
        for (int rank : below(0)) refuses(Promise::busy, x -> x.rank(0, rank), BAD_VALUE);
    }

    @Sentence(IN_RANGE)
    static void rankTooLarge() {
        for (int rank : above(9)) refuses(Promise::busy, x -> x.rank(0, rank), BAD_VALUE);
    }

    @Sentence(ORDER)
    static void noSuchAheadOfBadValue() {
        refuses(Promise::busy, x -> x.rank(2, 10), NO_SUCH);
        refuses(Promise::busy, x -> x.rank(-1, -1), NO_SUCH);
    }

    @Sentence(CHANGE)
    static void isRecorded() {
        isAChange(Promise::busy, x -> x.rank(0, 9));
        isAChange(Promise::ten, x -> x.rank(9, 0));
    }

    @Sentence(CHANGE)
    static void isRecordedWithTheSameRank() {
        isAChange(Promise10Test::oneMember, x -> x.rank(0, 5));
    }

    private static LayeredCharters oneMember() {
        LayeredCharters x = new LayeredCharters();
        x.join(0, 5);
        return x;
    }
}
