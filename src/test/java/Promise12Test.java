/** Promise 12: rule. */
public final class Promise12Test extends Promise {
    private static final String NONE_SUCH = "NO_SUCH if there is no such rule";
    private static final String IN_RANGE = "BAD_VALUE if what is out of range.";
    private static final String HAS =
        "A rule has a layer, a kind, a craft, or 5 for all crafts, a deed, or 6 for all deeds, and a seal, 1 to 9.";
    private static final String IDLE =
        "A rule is idle, if the charter without it would allow just the same for all crafts, deeds and ranks.";
    private static final String ODDS = "Two rules are at odds, if one is a permit or a waiver, the other a ban, "
        + "and there is a craft and a deed that both fit.";

    public static void main(String[] args) throws ReflectiveOperationException {
        run(Promise12Test.class);
    }

    private static void idle(String rules, int... want) {
        LayeredCharters x = charter(rules);
        int sum = 0;
        for (int i = 0; i < want.length; i++) {
            is(x.rule(i, 5), want[i]);
            sum += want[i];
        }
        is(x.count(4), sum);
    }

    private static void odds(String rules, int... want) {
        LayeredCharters x = charter(rules);
        int sum = 0;
        for (int i = 0; i < want.length; i++) {
            is(x.rule(i, 6), want[i]);
            sum += want[i];
        }
        is(x.count(5), sum / 2);
    }

    @Sentence("Returns the number")
    static void allOfEachRule() {
        LayeredCharters x = charter("0p12;3b*45;2w3*9");
        same(allOf(x, 0), "0 0 1 2 1 0 0 1");
        same(allOf(x, 1), "3 1 5 4 5 1 1 5");
        same(allOf(x, 2), "2 2 3 6 9 1 1 6");
    }

    @Sentence(HAS)
    static void theLeastAndTheGreatestOfEach() {
        LayeredCharters x = charter("0b001;4w**9;4b459");
        same(fields(x, 0), "0 1 0 0 1");
        same(fields(x, 1), "4 2 5 6 9");
        same(fields(x, 2), "4 1 4 5 9");
    }

    @Sentence("0 its layer, 1 its kind, 2 its craft, 3 its deed, 4 its seal")
    static void whatItIs() {
        LayeredCharters x = charter("0p**;4w3*9;1b*45");
        same(fields(x, 0), "0 0 5 6 1");
        same(fields(x, 1), "4 2 3 6 9");
        same(fields(x, 2), "1 1 5 4 5");
    }

    @Sentence("5 whether it is idle (1 or 0)")
    static void oneOr0() {
        idle("0p**;0p**", 1, 1);
        idle("0p**", 0);
        idle("0b**9", 1);
    }

    @Sentence(IDLE)
    static void notIdleForOneTripleAlone() {
        idle("0p**;4b001", 0, 0);
        idle("0p**;4b451", 0, 0);
        idle("0p**;4b**1;4w451", 0, 0, 0);
        idle("0p45;4b459", 0, 0);
    }

    @Sentence(IDLE)
    static void permits() {
        idle("0p**;0p00", 0, 1);
        idle("0p0*;0p*0", 0, 0);
        idle("0p0*;0p*0;0p00", 0, 0, 1);
        idle("0p00;0p00", 1, 1);
        idle("0p**;0b**9", 0, 0);
    }

    @Sentence(IDLE)
    static void bansOfTheSamePairs() {
        idle("0p**;0b**5;4b**5", 0, 1, 1);
        idle("0p**;0b**5;4b**4", 0, 0, 1);
        idle("0p**;0b**5;4b**6", 0, 1, 0);
        idle("0p**;0b0*5;0b*05", 0, 0, 0);
    }

    @Sentence(IDLE)
    static void bansOfWhatIsNotPermitted() {
        idle("0p0*;0b1*9", 0, 1);
        idle("0p0*;0b*09", 0, 0);
        idle("0b**9;4w**9", 1, 1);
    }

    @Sentence(IDLE)
    static void liftedBansAndTheirWaivers() {
        idle("0p**;2b**5;2w**5", 0, 1, 0);
        idle("0p**;2b**5;1w**5", 0, 1, 0);
        idle("0p**;2b**5;3w**5", 0, 0, 1);
        idle("0p**;2b**5;2w**4", 0, 0, 1);
        idle("0p**;2b**5;2w**5;0w**9", 0, 1, 1, 1);
    }

    @Sentence(ODDS)
    static void permitsAndWaiversWithBans() {
        odds("0p**;0b**5", 1, 1);
        odds("0w**5;0b**5", 1, 1);
        odds("0p**;0w**5;0b**5", 1, 1, 2);
    }

    @Sentence(ODDS)
    static void notTwoOfOneSide() {
        odds("0p**;0p**", 0, 0);
        odds("0p**;0w**5", 0, 0);
        odds("0w**5;0w**5", 0, 0);
        odds("0b**5;0b**5", 0, 0);
    }

    @Sentence(ODDS)
    static void layersSealsAndNumbersDoNotMatter() {
        odds("0b**1;4w**9", 1, 1);
        odds("0b**9;4w**1", 1, 1);
        odds("4b**1;0p**", 1, 1);
    }

    @Sentence("there is a craft and a deed that both fit")
    static void oneSharedPairIsEnough() {
        odds("0p0*;0b*59", 1, 1);
        odds("0p45;0b**9", 1, 1);
        odds("0p*0;0b009", 1, 1);
        odds("0p45;0b459", 1, 1);
    }

    @Sentence("there is a craft and a deed that both fit")
    static void notTheCraftOrTheDeedAlone() {
        odds("0p00;0b019", 0, 0);
        odds("0p00;0b109", 0, 0);
        odds("0p0*;0b1*9", 0, 0);
        odds("0p*0;0b*19", 0, 0);
    }

    @Sentence("6 rules with which it is at odds, how many")
    static void from0To23() {
        LayeredCharters x = charter("0b**9");
        is(x.rule(0, 6), 0);
        for (int i = 1; i < 24; i++) {
            x.add(0, i % 2 * 2, 5, 6, 1);
            is(x.rule(0, 6), i);
            is(x.rule(i, 6), 1);
        }
    }

    @Sentence("7 pairs of a craft and a deed that it fits")
    static void from1To30() {
        LayeredCharters x = charter("0p00;0b459;0p3*;1w*45;4b**1");
        is(x.rule(0, 7), 1);
        is(x.rule(1, 7), 1);
        is(x.rule(2, 7), 6);
        is(x.rule(3, 7), 5);
        is(x.rule(4, 7), 30);
    }

    @Sentence(NONE_SUCH)
    static void noRules() {
        for (int what : new int[] {0, 1, 2, 3, 4, 5, 6, 7}) refuses(Promise::empty, x -> x.rule(0, what), NO_SUCH);
    }

    @Sentence(NONE_SUCH)
    static void ruleTooSmall() {
        for (int rule : below(0)) {
            for (int what : new int[] {0, 5, 6, 7}) refuses(Promise::busy, x -> x.rule(rule, what), NO_SUCH);
        }
    }

    @Sentence(NONE_SUCH)
    static void ruleTooLarge() {
        for (int rule : above(3)) {
            for (int what : new int[] {0, 5, 6, 7}) refuses(Promise::busy, x -> x.rule(rule, what), NO_SUCH);
        }
    }

    @Sentence(NONE_SUCH)
    static void theLastOf24AndBehindIt() {
        is(full().rule(23, 0), 23 % 5);
        for (int what : new int[] {0, 5, 6, 7}) refuses(Promise::full, x -> x.rule(24, what), NO_SUCH);
    }

    @Sentence(IN_RANGE)
    static void whatTooSmall() {
        for (int what : below(0)) refuses(Promise::busy, x -> x.rule(0, what), BAD_VALUE);
    }

    @Sentence(IN_RANGE)
    static void whatTooLarge() {
        for (int what : above(7)) refuses(Promise::busy, x -> x.rule(0, what), BAD_VALUE);
    }

    @Sentence(ORDER)
    static void noSuchAheadOfBadValue() {
        refuses(Promise::busy, x -> x.rule(4, 8), NO_SUCH);
        refuses(Promise::busy, x -> x.rule(-1, -1), NO_SUCH);
        refuses(Promise::empty, x -> x.rule(0, 8), NO_SUCH);
    }

    @Sentence("Returns something about a rule.")
    static void changesNothing() {
        for (int what : new int[] {0, 1, 2, 3, 4, 5, 6, 7}) leavesAlone(Promise::busy, x -> x.rule(1, what));
        leavesAlone(Promise::full, x -> x.rule(23, 5));
    }
}
