/** Promise 13: member. */
public final class Promise13Test extends Promise {
    private static final String NONE_SUCH = "NO_SUCH if there is no such member";
    private static final String IN_RANGE = "BAD_VALUE if what is out of range.";
    private static final String SET = "2 deeds that it may do, as a set (a bit mask)";

    public static void main(String[] args) throws ReflectiveOperationException {
        run(Promise13Test.class);
    }

    private static int set(String rules, int craft, int rank) {
        LayeredCharters x = rules.isEmpty() ? new LayeredCharters() : charter(rules);
        x.join(craft, rank);
        return x.member(0, 2);
    }

    @Sentence("Returns the number")
    static void allOfEachMember() {
        LayeredCharters x = charter("0p3*;0p02;4b325");
        x.join(3, 4);
        x.join(0, 9);
        x.act(0, 0);
        x.act(0, 2);
        x.act(1, 3);
        x.act(1, 2);
        x.act(1, 2);
        int[] first = {3, 4, 59, 1, 1};
        int[] second = {0, 9, 4, 2, 1};
        for (int what = 0; what <= 4; what++) {
            is(x.member(0, what), first[what]);
            is(x.member(1, what), second[what]);
        }
    }

    @Sentence("0 its craft, 1 its rank")
    static void leastAndGreatest() {
        LayeredCharters x = new LayeredCharters();
        x.join(0, 9);
        x.join(4, 0);
        is(x.member(0, 0), 0);
        is(x.member(0, 1), 9);
        is(x.member(1, 0), 4);
        is(x.member(1, 1), 0);
    }

    @Sentence(SET)
    static void noneAndAll() {
        is(set("", 0, 9), 0);
        is(set("0p**;0b**9", 0, 8), 0);
        is(set("0p**", 4, 0), 63);
        is(set("0p**;0b**9", 4, 9), 63);
    }

    @Sentence(SET)
    static void oneBitForEachDeed() {
        for (int deed = 0; deed <= 5; deed++) {
            is(set("0p*" + deed, 0, 0), 1 << deed);
            is(set("0p4" + deed, 4, 9), 1 << deed);
            is(set("0p**;0b*" + deed + "9", 2, 8), 63 - (1 << deed));
        }
    }

    @Sentence(SET)
    static void ofItsOwnCraftAlone() {
        for (int craft = 0; craft <= 4; craft++) {
            for (int other = 0; other <= 4; other++) is(set("0p" + other + "*", craft, 9), other == craft ? 63 : 0);
        }
    }

    @Sentence(SET)
    static void ofItsOwnRankAlone() {
        for (int seal = 1; seal <= 9; seal++) {
            is(set("0p**;3b*2" + seal, 1, seal), 63);
            is(set("0p**;3b*2" + seal, 1, seal - 1), 59);
        }
    }

    @Sentence("3 deeds that it did so far, 4 how often it was refused so far")
    static void deedsAndRefusals() {
        LayeredCharters x = charter("0p*0;0p*1;0b*09");
        x.join(0, 5);
        x.join(1, 5);
        x.act(0, 0);
        x.act(0, 1);
        x.act(0, 1);
        x.act(0, 2);
        x.act(0, 2);
        x.act(0, 2);
        is(x.member(0, 3), 2);
        is(x.member(0, 4), 4);
        is(x.member(1, 3), 0);
        is(x.member(1, 4), 0);
    }

    @Sentence(NONE_SUCH)
    static void noMembers() {
        for (int what : new int[] {0, 1, 2, 3, 4}) refuses(Promise::full, x -> x.member(0, what), NO_SUCH);
    }

    @Sentence(NONE_SUCH)
    static void memberTooSmall() {
        for (int member : below(0)) {
            for (int what : new int[] {0, 2, 4}) refuses(Promise::busy, x -> x.member(member, what), NO_SUCH);
        }
    }

    @Sentence(NONE_SUCH)
    static void memberTooLarge() {
        for (int member : above(1)) {
            for (int what : new int[] {0, 2, 4}) refuses(Promise::busy, x -> x.member(member, what), NO_SUCH);
        }
    }

    @Sentence(NONE_SUCH)
    static void theLastOf10AndBehindIt() {
        is(ten().member(9, 1), 9);
        for (int what : new int[] {0, 2, 4}) refuses(Promise::ten, x -> x.member(10, what), NO_SUCH);
    }

    @Sentence(IN_RANGE)
    static void whatTooSmall() {
        for (int what : below(0)) refuses(Promise::busy, x -> x.member(0, what), BAD_VALUE);
    }

    @Sentence(IN_RANGE)
    static void whatTooLarge() {
        for (int what : above(4)) refuses(Promise::busy, x -> x.member(0, what), BAD_VALUE);
    }

    @Sentence(ORDER)
    static void noSuchAheadOfBadValue() {
        refuses(Promise::busy, x -> x.member(2, 5), NO_SUCH);
        refuses(Promise::busy, x -> x.member(-1, -1), NO_SUCH);
        refuses(Promise::empty, x -> x.member(0, 5), NO_SUCH);
    }

    @Sentence("Returns something about a member.")
    static void changesNothing() {
        for (int what : new int[] {0, 1, 2, 3, 4}) leavesAlone(Promise::busy, x -> x.member(0, what));
    }
}
