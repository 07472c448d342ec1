/** Promise 11: act. */
public final class Promise11Test extends Promise {
    private static final String ANSWER = "Returns NONE if it is done, otherwise the reason";
    private static final String NONE_SUCH = "NO_SUCH if there is no such member or deed.";
    private static final String COUNTS =
        "each refusal by a ban counts for this ban's layer, one for lack of a permit counts apart";

    public static void main(String[] args) throws ReflectiveOperationException {
        run(Promise11Test.class);
    }

    private static LayeredCharters member(String rules, int craft, int rank) {
        LayeredCharters x = charter(rules);
        x.join(craft, rank);
        return x;
    }

    @Sentence("A member does a deed, or is refused.")
    static void countsForThatMemberAlone() {
        LayeredCharters x = busy();
        is(x.act(1, 4), NONE);
        x.rank(0, 5);
        is(x.act(0, 0), NONE);
        is(x.act(0, 4), 3);
        is(x.act(0, 4), 3);
        same(told(x, 0), "0 5 1 3");
        same(told(x, 1), "1 6 2 0");
    }

    @Sentence("it is done, if it is allowed for the craft and the rank, otherwise it is refused")
    static void byItsOwnCraftAndRank() {
        LayeredCharters x = charter("0p1*;0b1*5");
        x.join(0, 9);
        x.join(1, 4);
        x.join(1, 5);
        is(x.act(0, 0), 100);
        is(x.act(1, 0), 1);
        is(x.act(2, 0), NONE);
    }

    @Sentence("A ban that fits holds for a rank below its seal")
    static void rankAtTheSealAndBelowIt() {
        for (int seal = 1; seal <= 9; seal++) {
            is(member("0p**;0b**" + seal, 0, seal).act(0, 0), NONE);
            is(member("0p**;0b**" + seal, 0, seal - 1).act(0, 0), 1);
        }
    }

    @Sentence(ANSWER)
    static void theBanWithTheNumber0() {
        LayeredCharters x = member("0b**9;0p**", 0, 0);
        is(x.act(0, 0), 0);
        same(told(x, 0), "0 0 0 1");
    }

    @Sentence(ANSWER)
    static void theBanWithTheNumber23() {
        LayeredCharters x = new LayeredCharters();
        for (int i = 0; i < 23; i++) x.add(0, 0, 5, 6, 1);
        x.add(4, 1, 5, 6, 9);
        x.join(4, 8);
        is(x.act(0, 5), 23);
        is(x.count(13), 1);
    }

    @Sentence(ANSWER)
    static void lackOfAPermitIs100() {
        is(member("0p1*;0b**9", 0, 9).act(0, 0), 100);
        is(member("0p1*;0b**9", 0, 0).act(0, 0), 100);
    }

    @Sentence("6 deeds, 0 to 5")
    static void deeds0To5() {
        LayeredCharters x = member("0p**", 4, 0);
        for (int deed = 0; deed <= 5; deed++) is(x.act(0, deed), NONE);
        is(x.member(0, 3), 6);
    }

    @Sentence(COUNTS)
    static void forEachLayer() {
        for (int layer = 0; layer <= 4; layer++) {
            LayeredCharters x = member("0p**;" + layer + "b**9", 0, 0);
            is(x.act(0, 0), 1);
            is(x.act(0, 0), 1);
            for (int other = 0; other <= 4; other++) is(x.count(9 + other), other == layer ? 2 : 0);
            is(x.count(14), 0);
            is(x.count(8), 0);
            is(x.member(0, 4), 2);
        }
    }

    @Sentence(COUNTS)
    static void forTheLayerOfTheReasonAlone() {
        LayeredCharters x = member("0p**;3b**9;1b**9;1b**8", 0, 0);
        is(x.act(0, 0), 2);
        is(x.count(10), 1);
        is(x.count(12), 0);
    }

    @Sentence(COUNTS)
    static void forTheLayerThatTheBanHadThen() {
        LayeredCharters x = member("0p**;3b**9", 0, 0);
        x.act(0, 0);
        x.move(1, 2);
        x.act(0, 0);
        is(x.count(12), 1);
        is(x.count(11), 1);
        x.strike(1);
        is(x.count(12), 1);
        is(x.count(11), 1);
    }

    @Sentence(COUNTS)
    static void lackOfAPermitApart() {
        LayeredCharters x = member("0b**9", 0, 0);
        is(x.act(0, 0), 100);
        is(x.count(14), 1);
        for (int layer = 0; layer <= 4; layer++) is(x.count(9 + layer), 0);
        is(x.member(0, 4), 1);
        is(x.member(0, 3), 0);
    }

    @Sentence(NONE_SUCH)
    static void noMembers() {
        refuses(() -> charter("0p**"), x -> x.act(0, 0), NO_SUCH);
    }

    @Sentence(NONE_SUCH)
    static void memberTooSmall() {
        for (int member : below(0)) refuses(Promise::busy, x -> x.act(member, 0), NO_SUCH);
    }

    @Sentence(NONE_SUCH)
    static void memberTooLarge() {
        for (int member : above(1)) refuses(Promise::busy, x -> x.act(member, 0), NO_SUCH);
    }

    @Sentence(NONE_SUCH)
    static void theLastOf10AndBehindIt() {
        is(ten().act(9, 0), NONE);
        refuses(Promise::ten, x -> x.act(10, 0), NO_SUCH);
    }

    @Sentence(NONE_SUCH)
    static void deedTooSmall() {
        for (int deed : below(0)) refuses(Promise::busy, x -> x.act(0, deed), NO_SUCH);
    }

    @Sentence(NONE_SUCH)
    static void deedTooLarge() {
        for (int deed : above(5)) refuses(Promise::busy, x -> x.act(0, deed), NO_SUCH);
    }

    @Sentence(CHANGE)
    static void isRecordedWhenDone() {
        isAChange(Promise::busy, x -> x.act(1, 4));
        isAChange(() -> member("0p**", 0, 0), x -> x.act(0, 0));
    }

    @Sentence(CHANGE)
    static void isRecordedWhenRefused() {
        isAChange(Promise::busy, x -> x.act(0, 1));
        isAChange(() -> member("0p**;2b**9", 0, 0), x -> x.act(0, 0));
        isAChange(() -> member("0b**9", 0, 0), x -> x.act(0, 0));
    }
}
