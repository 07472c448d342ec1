/** Promise 5: move. */
public final class Promise05Test extends Promise {
    private static final String NONE_SUCH = "NO_SUCH if there is no such rule or layer";
    private static final String OF_LAYER_0 = "NOT_POSSIBLE for a permit, if the layer is not 0.";

    public static void main(String[] args) throws ReflectiveOperationException {
        run(Promise05Test.class);
    }

    @Sentence("Moves a rule to another layer.")
    static void movesThatRuleAlone() {
        LayeredCharters x = busy();
        is(x.move(1, 4), 1);
        same(fields(x, 0), "0 0 5 6 1");
        same(fields(x, 1), "4 1 0 6 5");
        same(fields(x, 2), "2 2 0 0 9");
        same(fields(x, 3), "3 1 5 4 6");
    }

    @Sentence("Moves a rule to another layer.")
    static void waiverLiftsFromItsNewLayer() {
        LayeredCharters x = charter("0p**;2b**7;3w**9");
        is(x.why(0, 0, 0), 1);
        x.move(2, 2);
        is(x.why(0, 0, 0), NONE);
        x.move(2, 3);
        is(x.why(0, 0, 0), 1);
    }

    @Sentence("Moves a rule to another layer.")
    static void banIsLiftedOnItsNewLayer() {
        LayeredCharters x = charter("0p**;1b**7;2w**9");
        is(x.why(0, 0, 0), 1);
        x.move(1, 2);
        is(x.why(0, 0, 0), NONE);
        x.move(1, 1);
        is(x.why(0, 0, 0), 1);
    }

    @Sentence("There are 5 layers, 0 (the outermost one) to 4")
    static void toEachLayer() {
        LayeredCharters x = charter("2b**5;2w**5");
        for (int layer = 0; layer <= 4; layer++) {
            is(x.move(0, layer), layer == 0 ? 2 : layer - 1);
            is(x.rule(0, 0), layer);
            is(x.move(1, layer), layer == 0 ? 2 : layer - 1);
            is(x.rule(1, 0), layer);
        }
    }

    @Sentence("Returns the layer before")
    static void fromTheOutermostToTheInnermostAndBack() {
        LayeredCharters x = charter("0b**5");
        is(x.move(0, 4), 0);
        is(x.move(0, 0), 4);
        is(x.move(0, 0), 0);
    }

    @Sentence(NONE_SUCH)
    static void noRules() {
        refuses(Promise::empty, x -> x.move(0, 0), NO_SUCH);
    }

    @Sentence(NONE_SUCH)
    static void ruleTooSmall() {
        for (int rule : below(0)) refuses(Promise::busy, x -> x.move(rule, 0), NO_SUCH);
    }

    @Sentence(NONE_SUCH)
    static void ruleTooLarge() {
        for (int rule : above(3)) refuses(Promise::busy, x -> x.move(rule, 0), NO_SUCH);
    }

    @Sentence(NONE_SUCH)
    static void theLastOf24AndBehindIt() {
        is(full().move(23, 0), 23 % 5);
        refuses(Promise::full, x -> x.move(24, 0), NO_SUCH);
    }

    @Sentence(NONE_SUCH)
    static void layerTooSmall() {
        for (int layer : below(0)) refuses(Promise::busy, x -> x.move(1, layer), NO_SUCH);
    }

    @Sentence(NONE_SUCH)
    static void layerTooLarge() {
        for (int layer : above(4)) refuses(Promise::busy, x -> x.move(2, layer), NO_SUCH);
    }

    @Sentence(OF_LAYER_0)
    static void permitToLayers1To4() {
        for (int layer : new int[] {1, 2, 3, 4}) refuses(Promise::busy, x -> x.move(0, layer), NOT_POSSIBLE);
    }

    @Sentence(OF_LAYER_0)
    static void permitToLayer0() {
        LayeredCharters x = charter("0p**");
        is(x.move(0, 0), 0);
        is(x.count(16), 2);
    }

    @Sentence(ORDER)
    static void noSuchAheadOfNotPossible() {
        refuses(Promise::busy, x -> x.move(0, 5), NO_SUCH);
        refuses(Promise::busy, x -> x.move(0, -1), NO_SUCH);
        refuses(Promise::busy, x -> x.move(4, 1), NO_SUCH);
        refuses(Promise::busy, x -> x.move(-1, 5), NO_SUCH);
    }

    @Sentence(CHANGE)
    static void isRecorded() {
        isAChange(Promise::busy, x -> x.move(1, 0));
        isAChange(() -> charter("0p**;0b**5"), x -> x.move(1, 4));
    }

    @Sentence(CHANGE)
    static void isRecordedToTheSameLayer() {
        isAChange(() -> charter("0p**;3b**5"), x -> x.move(1, 3));
    }
}
