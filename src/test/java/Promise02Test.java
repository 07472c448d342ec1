/** Promise 2: add. */
public final class Promise02Test extends Promise {
    private static final String OF_WHAT = "NO_SUCH if there is no such layer, craft or deed";
    private static final String IN_RANGE = "BAD_VALUE if kind or seal is out of range";
    private static final String OF_LAYER_0 = "NOT_POSSIBLE for a permit of another layer than 0";

    public static void main(String[] args) throws ReflectiveOperationException {
        run(Promise02Test.class);
    }

    @Sentence("Adds a rule.")
    static void addsItBehindTheOthers() {
        LayeredCharters x = busy();
        is(x.add(3, 1, 2, 4, 8), 4);
        is(x.count(0), 5);
        same(fields(x, 3), "3 1 5 4 6");
        same(fields(x, 4), "3 1 2 4 8");
    }

    @Sentence("`layer`: 0 to 4")
    static void layers0To4() {
        LayeredCharters x = new LayeredCharters();
        for (int layer = 0; layer <= 4; layer++) {
            is(x.add(layer, 1, 0, 0, 1), layer);
            is(x.rule(layer, 0), layer);
        }
    }

    @Sentence("`kind`: 0 to 2")
    static void kinds0To2() {
        LayeredCharters x = new LayeredCharters();
        for (int kind = 0; kind <= 2; kind++) {
            is(x.add(0, kind, 0, 0, 1), kind);
            is(x.rule(kind, 1), kind);
            is(x.count(1 + kind), 1);
        }
    }

    @Sentence("The kinds are 0 a permit, 1 a ban, 2 a waiver")
    static void kindsMeanWhatTheConstantsSay() {
        LayeredCharters x = new LayeredCharters();
        x.add(0, LayeredCharters.PERMIT, 0, 0, 1);
        is(x.why(0, 0, 0), NONE);
        x.add(0, LayeredCharters.BAN, 0, 0, 1);
        is(x.why(0, 0, 0), 1);
        x.add(0, LayeredCharters.WAIVER, 0, 0, 1);
        is(x.why(0, 0, 0), NONE);
    }

    @Sentence("`craft`: 0 to 4, or 5 for all")
    static void crafts0To4AndAll() {
        LayeredCharters x = new LayeredCharters();
        for (int craft = 0; craft <= 5; craft++) {
            is(x.add(0, 1, craft, 0, 1), craft);
            is(x.rule(craft, 2), craft);
            is(x.rule(craft, 7), craft == 5 ? 5 : 1);
        }
    }

    @Sentence("`deed`: 0 to 5, or 6 for all")
    static void deeds0To5AndAll() {
        LayeredCharters x = new LayeredCharters();
        for (int deed = 0; deed <= 6; deed++) {
            is(x.add(0, 1, 0, deed, 1), deed);
            is(x.rule(deed, 3), deed);
            is(x.rule(deed, 7), deed == 6 ? 6 : 1);
        }
    }

    @Sentence("`seal`: 1 to 9")
    static void seals1To9() {
        LayeredCharters x = new LayeredCharters();
        for (int seal = 1; seal <= 9; seal++) {
            is(x.add(0, 1, 0, 0, seal), seal - 1);
            is(x.rule(seal - 1, 4), seal);
        }
    }

    @Sentence("A rule fits a craft and a deed, if it names them, or all.")
    static void fitsWhatItNames() {
        for (int craft = 0; craft <= 5; craft++) {
            for (int deed = 0; deed <= 6; deed++) {
                LayeredCharters x = new LayeredCharters();
                x.add(0, 0, craft, deed, 1);
                for (int i = 0; i < 30; i++) {
                    boolean fits = (craft == 5 || craft == i / 6) && (deed == 6 || deed == i % 6);
                    is(x.why(i / 6, i % 6, 0), fits ? NONE : 100);
                }
            }
        }
    }

    @Sentence("Everything is numbered from 0.")
    static void theFirstIs0() {
        is(new LayeredCharters().add(0, 0, 0, 0, 1), 0);
    }

    @Sentence("Returns its number")
    static void theLastIs23() {
        LayeredCharters x = new LayeredCharters();
        for (int i = 0; i < 24; i++) is(x.add(0, 0, 0, 0, 1), i);
        is(x.count(0), 24);
        is(x.rule(23, 1), 0);
        is(x.rule(24, 1), NO_SUCH);
    }

    @Sentence("numbered in the order in which they came (when one is struck, those behind it get numbers that are 1 less)")
    static void theNextComesBehindThoseThatAreLeft() {
        LayeredCharters x = charter("0p**;1b0*5;2w009");
        x.strike(0);
        is(x.add(4, 1, 1, 1, 3), 2);
        same(fields(x, 0), "1 1 0 6 5");
        same(fields(x, 1), "2 2 0 0 9");
        same(fields(x, 2), "4 1 1 1 3");
    }

    @Sentence(OF_WHAT)
    static void layerTooSmall() {
        for (int layer : below(0)) refuses(Promise::busy, x -> x.add(layer, 1, 0, 0, 1), NO_SUCH);
    }

    @Sentence(OF_WHAT)
    static void layerTooLarge() {
        for (int layer : above(4)) refuses(Promise::busy, x -> x.add(layer, 1, 0, 0, 1), NO_SUCH);
    }

    @Sentence(OF_WHAT)
    static void craftTooSmall() {
        for (int craft : below(0)) refuses(Promise::busy, x -> x.add(0, 1, craft, 0, 1), NO_SUCH);
    }

    @Sentence(OF_WHAT)
    static void craftTooLarge() {
        for (int craft : above(5)) refuses(Promise::busy, x -> x.add(0, 1, craft, 0, 1), NO_SUCH);
    }

    @Sentence(OF_WHAT)
    static void deedTooSmall() {
        for (int deed : below(0)) refuses(Promise::busy, x -> x.add(0, 1, 0, deed, 1), NO_SUCH);
    }

    @Sentence(OF_WHAT)
    static void deedTooLarge() {
        for (int deed : above(6)) refuses(Promise::busy, x -> x.add(0, 1, 0, deed, 1), NO_SUCH);
    }

    @Sentence(IN_RANGE)
    static void kindTooSmall() {
        for (int kind : below(0)) refuses(Promise::busy, x -> x.add(0, kind, 0, 0, 1), BAD_VALUE);
    }

    @Sentence(IN_RANGE)
    static void kindTooLarge() {
        for (int kind : above(2)) refuses(Promise::busy, x -> x.add(0, kind, 0, 0, 1), BAD_VALUE);
    }

    @Sentence(IN_RANGE)
    static void sealTooSmall() {
        for (int seal : below(1)) refuses(Promise::busy, x -> x.add(0, 1, 0, 0, seal), BAD_VALUE);
    }

    @Sentence(IN_RANGE)
    static void sealTooLarge() {
        for (int seal : above(9)) refuses(Promise::busy, x -> x.add(0, 2, 0, 0, seal), BAD_VALUE);
    }

    @Sentence(IN_RANGE)
    static void sealOfAPermitOutOfRange() {
        refuses(Promise::busy, x -> x.add(0, 0, 0, 0, 0), BAD_VALUE);
        refuses(Promise::busy, x -> x.add(0, 0, 0, 0, 10), BAD_VALUE);
    }

    @Sentence(OF_LAYER_0)
    static void permitOfLayers1To4() {
        for (int layer : new int[] {1, 2, 3, 4}) refuses(Promise::busy, x -> x.add(layer, 0, 5, 6, 5), NOT_POSSIBLE);
    }

    @Sentence("permits are of the layer 0 alone, and their seal does not matter")
    static void bansAndWaiversOfEachLayer() {
        LayeredCharters x = new LayeredCharters();
        for (int i = 0; i < 10; i++) {
            is(x.add(i / 2, 1 + i % 2, 0, 0, 1), i);
            is(x.rule(i, 0), i / 2);
        }
    }

    @Sentence("permits are of the layer 0 alone, and their seal does not matter")
    static void sealOfAPermitDoesNotMatter() {
        for (int seal = 1; seal <= 9; seal++) {
            LayeredCharters x = charter("0b**5");
            is(x.add(0, 0, 5, 6, seal), 1);
            is(x.leastRank(0, 0), 5);
            is(x.count(6), 150);
        }
    }

    @Sentence("TOO_MANY if there are 24.")
    static void no25th() {
        for (int kind : new int[] {0, 1, 2}) refuses(Promise::full, x -> x.add(0, kind, 0, 0, 1), TOO_MANY);
    }

    @Sentence("The charter has up to 24 rules")
    static void allOf24AreKept() {
        LayeredCharters x = full();
        is(x.count(0), 24);
        same(fields(x, 0), "0 0 5 6 1");
        for (int i = 1; i < 24; i++) {
            same(fields(x, i), i % 5 + " " + (1 + i % 2) + " " + i % 6 + " " + i % 7 + " " + (1 + i % 9));
        }
    }

    @Sentence("TOO_MANY if there are 24.")
    static void roomAgainAfterStrike() {
        LayeredCharters x = full();
        is(x.strike(0), 23);
        is(x.add(0, 0, 1, 2, 3), 23);
        same(fields(x, 23), "0 0 1 2 3");
        is(x.add(0, 0, 0, 0, 1), TOO_MANY);
    }

    @Sentence("TOO_MANY if there are 24.")
    static void roomAgainAfterUndo() {
        LayeredCharters x = full();
        x.undo();
        is(x.add(4, 2, 5, 6, 9), 23);
        is(x.add(4, 2, 5, 6, 9), TOO_MANY);
    }

    @Sentence(ORDER)
    static void noSuchAheadOfBadValue() {
        refuses(Promise::busy, x -> x.add(5, 3, 0, 0, 1), NO_SUCH);
        refuses(Promise::busy, x -> x.add(0, 1, 6, 0, 0), NO_SUCH);
        refuses(Promise::busy, x -> x.add(0, -1, 0, 7, 1), NO_SUCH);
        refuses(Promise::busy, x -> x.add(0, 1, 0, -1, 10), NO_SUCH);
    }

    @Sentence(ORDER)
    static void noSuchAheadOfNotPossible() {
        refuses(Promise::busy, x -> x.add(5, 0, 0, 0, 1), NO_SUCH);
        refuses(Promise::busy, x -> x.add(-1, 0, 0, 0, 1), NO_SUCH);
        refuses(Promise::busy, x -> x.add(1, 0, 6, 0, 1), NO_SUCH);
        refuses(Promise::busy, x -> x.add(1, 0, 0, 7, 1), NO_SUCH);
    }

    @Sentence(ORDER)
    static void badValueAheadOfNotPossible() {
        refuses(Promise::busy, x -> x.add(1, 0, 0, 0, 0), BAD_VALUE);
        refuses(Promise::busy, x -> x.add(4, 0, 0, 0, 10), BAD_VALUE);
    }

    @Sentence(ORDER)
    static void tooManyComesLast() {
        refuses(Promise::full, x -> x.add(5, 1, 0, 0, 1), NO_SUCH);
        refuses(Promise::full, x -> x.add(0, 1, 6, 0, 1), NO_SUCH);
        refuses(Promise::full, x -> x.add(0, 1, 0, 7, 1), NO_SUCH);
        refuses(Promise::full, x -> x.add(0, 3, 0, 0, 1), BAD_VALUE);
        refuses(Promise::full, x -> x.add(0, 1, 0, 0, 0), BAD_VALUE);
        refuses(Promise::full, x -> x.add(1, 0, 0, 0, 1), NOT_POSSIBLE);
    }

    @Sentence(CHANGE)
    static void isRecorded() {
        isAChange(Promise::empty, x -> x.add(0, 0, 5, 6, 1));
        isAChange(Promise::busy, x -> x.add(4, 2, 5, 6, 9));
    }
}
