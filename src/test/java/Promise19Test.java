/** Promise 19: worstBan. */
public final class Promise19Test extends Promise {
    private static final String WORST = "Finds the ban without which the most triples would be allowed; of several the lowest.";

    public static void main(String[] args) throws ReflectiveOperationException {
        run(Promise19Test.class);
    }

    @Sentence("Finds the ban without which the most triples would be allowed")
    static void byTriplesNotBySealOrLayer() {
        is(charter("0p**;0b009;4b**1").worstBan(), 2);
        is(charter("0p**;4b**1;0b009").worstBan(), 1);
        is(charter("0p**;0b0*9;0b0*9;3b111").worstBan(), 3);
        is(charter("0p**;0b**9;1b**8;0w0*9").worstBan(), 1);
    }

    @Sentence("Finds the ban without which the most triples would be allowed")
    static void byOneTripleMore() {
        is(charter("0p**;0b001;0b012").worstBan(), 2);
        is(charter("0p**;0b002;0b011").worstBan(), 1);
    }

    @Sentence("of several the lowest")
    static void theLowestOfSeveral() {
        is(charter("0p**;4b005;0b115;2b225").worstBan(), 1);
        is(charter("0p**;4b004;0b115;2b225").worstBan(), 2);
    }

    @Sentence("of several the lowest")
    static void theLowestOfIdleOnes() {
        is(charter("0b**1;0b**9").worstBan(), 0);
        is(charter("0p**;1b**9;2b**9").worstBan(), 1);
        is(charter("0p**;0w**9;1b**5;2b**6").worstBan(), 2);
        is(charter("0p**;0w**9;4b001").worstBan(), 2);
    }

    @Sentence("Returns the ban")
    static void theFirstAndTheLastOf24() {
        LayeredCharters x = charter("0b**1");
        for (int i = 1; i < 23; i++) x.add(0, 0, 5, 6, 1);
        x.add(4, 1, 5, 6, 1);
        is(x.worstBan(), 0);
        x.seal(23, 2);
        is(x.worstBan(), 23);
        x.strike(23);
        is(x.worstBan(), 0);
    }

    @Sentence(WORST)
    static void notAPermitOrAWaiver() {
        is(charter("0p0*;0p1*;0b009;0w**8").worstBan(), 2);
    }

    @Sentence("NONE if there are no bans.")
    static void noBans() {
        is(new LayeredCharters().worstBan(), NONE);
        is(charter("0p**").worstBan(), NONE);
        is(charter("0p**;0w**9;4w**1").worstBan(), NONE);
    }

    @Sentence("NONE if there are no bans.")
    static void theLastBanStruck() {
        LayeredCharters x = charter("0p**;0b**5;0w**9");
        is(x.worstBan(), 1);
        x.strike(1);
        is(x.worstBan(), NONE);
    }

    @Sentence(WORST)
    static void changesNothing() {
        leavesAlone(Promise::busy, LayeredCharters::worstBan);
        leavesAlone(Promise::full, LayeredCharters::worstBan);
        leavesAlone(Promise::empty, LayeredCharters::worstBan);
    }
}
