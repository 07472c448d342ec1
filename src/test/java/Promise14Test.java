/** Promise 14: allowed. */
public final class Promise14Test extends Promise {
    private static final String OF_WHAT = "NO_SUCH if there is no such craft or deed";
    private static final String IN_RANGE = "BAD_VALUE if rank is not 0 to 9, or way is neither 0 nor 1.";
    private static final String LIFTED = "it is lifted, if a waiver that fits, of the same layer or of an outer one "
        + "(with a lower number), has a seal that is not less than that of the ban.";

    public static void main(String[] args) throws ReflectiveOperationException {
        run(Promise14Test.class);
    }

    private static void bothWays(LayeredCharters x, int craft, int deed, int rank, int want) {
        is(x.allowed(craft, deed, rank, 0), want);
        is(x.allowed(craft, deed, rank, 1), want);
    }

    @Sentence("Returns 1 if it is, otherwise 0 (the same by both ways)")
    static void oneOr0() {
        LayeredCharters x = charter("0p**;0b0*9");
        bothWays(x, 0, 0, 8, 0);
        bothWays(x, 0, 0, 9, 1);
        bothWays(x, 1, 0, 0, 1);
    }

    @Sentence("Returns 1 if it is, otherwise 0 (the same by both ways)")
    static void theSameByBothWays() {
        for (int rank = 0; rank <= 9; rank++) {
            LayeredCharters x = full();
            for (int i = 0; i < 30; i++) is(x.allowed(i / 6, i % 6, rank, 0), x.allowed(i / 6, i % 6, rank, 1));
        }
    }

    @Sentence("A deed is asked for a craft and a rank, 0 to 9.")
    static void eachCraftDeedAndRank() {
        for (int craft = 0; craft <= 4; craft++) {
            LayeredCharters x = charter("0p" + craft + "*;0b**5");
            for (int i = 0; i < 60; i++) {
                bothWays(x, craft, i / 10, i % 10, i % 10 >= 5 ? 1 : 0);
                bothWays(x, (craft + 1) % 5, i / 10, i % 10, 0);
            }
        }
    }

    @Sentence("It is permitted, if a permit fits.")
    static void onlyByAPermit() {
        bothWays(new LayeredCharters(), 0, 0, 9, 0);
        bothWays(charter("0w**9;4w**9"), 0, 0, 9, 0);
        bothWays(charter("0p00"), 0, 0, 0, 1);
        bothWays(charter("0p00"), 0, 1, 9, 0);
        bothWays(charter("0p00"), 1, 0, 9, 0);
        bothWays(charter("0p01;0p10;0p00"), 0, 0, 0, 1);
    }

    @Sentence("A ban that fits holds for a rank below its seal")
    static void rankAtTheSealAndBelowIt() {
        for (int layer = 0; layer <= 4; layer++) {
            for (int seal = 1; seal <= 9; seal++) {
                LayeredCharters x = charter("0p**;" + layer + "b**" + seal);
                bothWays(x, 0, 0, seal, 1);
                bothWays(x, 0, 0, seal - 1, 0);
                bothWays(x, 4, 5, 0, 0);
                bothWays(x, 4, 5, 9, 1);
            }
        }
    }

    @Sentence("A ban that fits holds for a rank below its seal")
    static void notOneThatDoesNotFit() {
        LayeredCharters x = charter("0p**;0b119");
        bothWays(x, 1, 1, 0, 0);
        bothWays(x, 1, 0, 0, 1);
        bothWays(x, 0, 1, 0, 1);
    }

    @Sentence(LIFTED)
    static void byTheSameLayerAndOuterOnes() {
        for (int ban = 0; ban <= 4; ban++) {
            for (int waiver = 0; waiver <= 4; waiver++) {
                bothWays(charter("0p**;" + ban + "b**5;" + waiver + "w**5"), 0, 0, 0, waiver <= ban ? 1 : 0);
            }
        }
    }

    @Sentence(LIFTED)
    static void byASealThatIsNotLess() {
        for (int ban = 1; ban <= 9; ban++) {
            for (int waiver = 1; waiver <= 9; waiver++) {
                bothWays(charter("0p**;2b**" + ban + ";2w**" + waiver), 0, 0, 0, waiver >= ban ? 1 : 0);
            }
        }
    }

    @Sentence(LIFTED)
    static void byOneThatFitsAlone() {
        LayeredCharters x = charter("0p**;2b**5;0w129");
        bothWays(x, 1, 2, 0, 1);
        bothWays(x, 1, 1, 0, 0);
        bothWays(x, 2, 2, 0, 0);
    }

    @Sentence(LIFTED)
    static void notByTwoThatAreTooWeak() {
        bothWays(charter("0p**;2b**5;1w**4;2w**4"), 0, 0, 0, 0);
        bothWays(charter("0p**;2b**5;0w**4;3w**9"), 0, 0, 0, 0);
    }

    @Sentence(LIFTED)
    static void whereverTheWaiverIsNumbered() {
        bothWays(charter("0w**5;0p**;2b**5"), 0, 0, 0, 1);
        bothWays(charter("2b**5;0w**5;0p**"), 0, 0, 0, 1);
    }

    @Sentence("0 told layer by layer from the outside, with the strongest waiver so far")
    static void theStrongestNotTheLatest() {
        bothWays(charter("0p**;0w**7;1w**2;2b**6"), 0, 0, 0, 1);
        bothWays(charter("0p**;1w**2;0w**7;2b**6"), 0, 0, 0, 1);
        bothWays(charter("0p**;0w**2;1w**7;2b**6"), 0, 0, 0, 1);
        bothWays(charter("0p**;0w**7;1w**2;2b**8"), 0, 0, 0, 0);
        bothWays(charter("0p**;2w**7;2w**2;2b**6"), 0, 0, 0, 1);
    }

    @Sentence("1 told by going through all bans, for each of which waivers are looked for")
    static void eachBanNeedsItsOwn() {
        bothWays(charter("0p**;1b**3;3b**6;0w**3;3w**6"), 0, 0, 0, 1);
        bothWays(charter("0p**;1b**6;3b**3;0w**3;3w**6"), 0, 0, 0, 0);
        bothWays(charter("0p**;1b**6;3b**3;0w**6"), 0, 0, 0, 1);
        bothWays(charter("0p**;1b**3;1b**6;1w**3"), 0, 0, 0, 0);
    }

    @Sentence("A deed is allowed, if it is permitted, and no ban that fits holds.")
    static void oneOfManyIsEnoughToForbid() {
        LayeredCharters x = charter("0p**;0w**5");
        for (int i = 2; i < 23; i++) x.add(i % 5, 1, 5, 6, 1 + i % 5);
        bothWays(x, 0, 0, 0, 1);
        x.add(4, 1, 0, 0, 6);
        bothWays(x, 0, 0, 5, 0);
        bothWays(x, 0, 0, 6, 1);
        bothWays(x, 0, 1, 0, 1);
    }

    @Sentence(OF_WHAT)
    static void craftTooSmall() {
        for (int craft : below(0)) {
            for (int way : new int[] {0, 1}) refuses(Promise::busy, x -> x.allowed(craft, 0, 0, way), NO_SUCH);
        }
    }

    @Sentence(OF_WHAT)
    static void craftTooLarge() {
        for (int craft : above(4)) {
            for (int way : new int[] {0, 1}) refuses(Promise::busy, x -> x.allowed(craft, 0, 0, way), NO_SUCH);
        }
    }

    @Sentence(OF_WHAT)
    static void deedTooSmall() {
        for (int deed : below(0)) {
            for (int way : new int[] {0, 1}) refuses(Promise::busy, x -> x.allowed(0, deed, 0, way), NO_SUCH);
        }
    }

    @Sentence(OF_WHAT)
    static void deedTooLarge() {
        for (int deed : above(5)) {
            for (int way : new int[] {0, 1}) refuses(Promise::busy, x -> x.allowed(0, deed, 0, way), NO_SUCH);
        }
    }

    @Sentence(IN_RANGE)
    static void rankTooSmall() {
        for (int rank : below(0)) {
            for (int way : new int[] {0, 1}) refuses(Promise::busy, x -> x.allowed(0, 0, rank, way), BAD_VALUE);
        }
    }

    @Sentence(IN_RANGE)
    static void rankTooLarge() {
        for (int rank : above(9)) {
            for (int way : new int[] {0, 1}) refuses(Promise::busy, x -> x.allowed(0, 0, rank, way), BAD_VALUE);
        }
    }

    @Sentence(IN_RANGE)
    static void wayTooSmall() {
        for (int way : below(0)) refuses(Promise::busy, x -> x.allowed(0, 0, 0, way), BAD_VALUE);
    }

    @Sentence(IN_RANGE)
    static void wayTooLarge() {
        for (int way : above(1)) refuses(Promise::busy, x -> x.allowed(0, 0, 0, way), BAD_VALUE);
    }

    @Sentence(ORDER)
    static void noSuchAheadOfBadValue() {
        refuses(Promise::busy, x -> x.allowed(5, 0, 10, 0), NO_SUCH);
        refuses(Promise::busy, x -> x.allowed(0, 6, 0, 2), NO_SUCH);
        refuses(Promise::busy, x -> x.allowed(-1, -1, -1, -1), NO_SUCH);
    }

    @Sentence("Tells whether a deed is allowed.")
    static void changesNothing() {
        leavesAlone(Promise::busy, x -> x.allowed(0, 0, 4, 0));
        leavesAlone(Promise::busy, x -> x.allowed(0, 0, 4, 1));
    }
}
