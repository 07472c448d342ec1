/** Promise 9: leave. */
public final class Promise09Test extends Promise {
    private static final String NONE_SUCH = "NO_SUCH if there is no such member.";
    private static final String BEHIND = "when one leaves, those behind get numbers that are 1 less";

    public static void main(String[] args) throws ReflectiveOperationException {
        run(Promise09Test.class);
    }

    /** Ten members, of whom the member i did i deeds and was refused 9 - i times. */
    private static LayeredCharters tenBusy() {
        LayeredCharters x = ten();
        for (int i = 0; i < 10; i++) {
            for (int times = 0; times < 9; times++) x.act(i, times < i ? 0 : 1);
        }
        return x;
    }

    @Sentence("A member leaves.")
    static void theOnlyOne() {
        LayeredCharters x = new LayeredCharters();
        x.join(0, 0);
        is(x.leave(0), 0);
        is(x.count(7), 0);
        is(x.member(0, 0), NO_SUCH);
        is(x.leave(0), NO_SUCH);
    }

    @Sentence("Returns how many deeds it did")
    static void refusalsAreNoDeeds() {
        LayeredCharters x = tenBusy();
        for (int i = 9; i >= 0; i--) is(x.leave(i), i);
    }

    @Sentence(BEHIND)
    static void theFirst() {
        LayeredCharters x = tenBusy();
        is(x.leave(0), 0);
        is(x.count(7), 9);
        for (int i = 0; i < 9; i++) same(told(x, i), (i + 1) % 5 + " " + (i + 1) + " " + (i + 1) + " " + (8 - i));
        is(x.member(9, 0), NO_SUCH);
    }

    @Sentence(BEHIND)
    static void oneBetween() {
        LayeredCharters x = tenBusy();
        is(x.leave(4), 4);
        for (int i = 0; i < 9; i++) {
            int was = i < 4 ? i : i + 1;
            same(told(x, i), was % 5 + " " + was + " " + was + " " + (9 - was));
        }
    }

    @Sentence(BEHIND)
    static void theLast() {
        LayeredCharters x = tenBusy();
        is(x.leave(9), 9);
        for (int i = 0; i < 9; i++) same(told(x, i), i % 5 + " " + i + " " + i + " " + (9 - i));
        is(x.member(9, 0), NO_SUCH);
    }

    @Sentence("8 deeds done so far (also by members who left)")
    static void whatItDidStaysCounted() {
        LayeredCharters x = tenBusy();
        is(x.count(8), 45);
        is(x.count(14), 45);
        for (int i = 0; i < 10; i++) x.leave(0);
        is(x.count(7), 0);
        is(x.count(8), 45);
        is(x.count(14), 45);
    }

    @Sentence(NONE_SUCH)
    static void noMembers() {
        refuses(Promise::empty, x -> x.leave(0), NO_SUCH);
    }

    @Sentence(NONE_SUCH)
    static void memberTooSmall() {
        for (int member : below(0)) refuses(Promise::busy, x -> x.leave(member), NO_SUCH);
    }

    @Sentence(NONE_SUCH)
    static void memberTooLarge() {
        for (int member : above(1)) refuses(Promise::busy, x -> x.leave(member), NO_SUCH);
    }

    @Sentence(NONE_SUCH)
    static void theEleventhOf10() {
        refuses(Promise::ten, x -> x.leave(10), NO_SUCH);
        refuses(Promise::ten, x -> x.leave(11), NO_SUCH);
    }

    @Sentence(CHANGE)
    static void isRecorded() {
        isAChange(Promise::busy, x -> x.leave(0));
        isAChange(Promise::ten, x -> x.leave(9));
        isAChange(Promise09Test::oneMember, x -> x.leave(0));
    }

    private static LayeredCharters oneMember() {
        LayeredCharters x = charter("0p0*");
        x.join(0, 3);
        x.act(0, 2);
        return x;
    }
}
