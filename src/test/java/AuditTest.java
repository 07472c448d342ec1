/** Promises 14 to 20: what is allowed and why not, counts, and what would be if. */
public final class AuditTest {
    private static final Check CHECK = new Check("AuditTest");
    private static final int[] FAR = {-1, Integer.MIN_VALUE, Integer.MAX_VALUE};

    public static void main(String[] args) {
        allowed();
        allowedLifted();
        allowedLeastSeal();
        allowedWrong();
        why();
        whyOutermost();
        whyWrong();
        count();
        countFirstRule();
        countTriples();
        countWrong();
        leastRank();
        leastRankWrong();
        ifStruck();
        worstBan();
        bestWaiver();
        bestWaiverOf24();
        CHECK.end();
    }

    private static void bothWays(LayeredCharters x, int craft, int deed, int rank, int want) {
        for (int way = 0; way <= 1; way++) {
            String call = "allowed(" + craft + ", " + deed + ", " + rank + ", " + way + ")";
            CHECK.is(call, x.allowed(craft, deed, rank, way), want);
        }
    }

    private static void allowed() {
        CHECK.part("promise 14");
        LayeredCharters x = Check.charterOf("0p0*;2b*15;4b036");
        bothWays(x, 0, 0, 0, 1);
        bothWays(x, 0, 0, 9, 1);
        bothWays(x, 0, 1, 4, 0);
        bothWays(x, 0, 1, 5, 1);
        bothWays(x, 0, 1, 0, 0);
        bothWays(x, 0, 3, 5, 0);
        bothWays(x, 0, 3, 6, 1);
        bothWays(x, 1, 1, 9, 0);
        bothWays(x, 4, 5, 9, 0);
        CHECK.is("count(16)", x.count(16), 3);
    }

    private static void allowedLifted() {
        CHECK.part("promise 14, lifted bans");
        // A ban of the layer 2 with the seal 5, and one waiver: lifted by one of the layers 0 to 2 with a seal of 5 or more.
        for (int layer = 0; layer < 5; layer++) {
            for (int seal = 1; seal <= 9; seal++) {
                LayeredCharters x = Check.charterOf("2b225;0p**");
                x.add(layer, 2, 5, 2, seal);
                bothWays(x, 2, 2, 0, layer <= 2 && seal >= 5 ? 1 : 0);
                bothWays(x, 2, 2, 4, layer <= 2 && seal >= 5 ? 1 : 0);
                bothWays(x, 2, 2, 5, 1);
            }
        }
        LayeredCharters x = Check.charterOf("0p**;1b**5;1w2*9;1w*39");
        bothWays(x, 2, 0, 0, 1);
        bothWays(x, 0, 3, 0, 1);
        bothWays(x, 0, 2, 0, 0);
        // A weaker waiver further inside does not undo a stronger one outside.
        x = Check.charterOf("0w**7;1w**2;2b**6;0p**;3b**8");
        bothWays(x, 0, 0, 0, 0);
        bothWays(x, 0, 0, 8, 1);
        x.strike(4);
        bothWays(x, 0, 0, 0, 1);
        // A waiver alone permits nothing.
        bothWays(Check.charterOf("0w**9"), 0, 0, 9, 0);
    }

    private static void allowedLeastSeal() {
        CHECK.part("promise 14, the seal 1");
        LayeredCharters x = Check.charterOf("4b**1;0p**");
        bothWays(x, 0, 0, 0, 0);
        bothWays(x, 0, 0, 1, 1);
        x.add(4, 2, 0, 6, 1);
        bothWays(x, 0, 0, 0, 1);
        bothWays(x, 1, 0, 0, 0);
        CHECK.is("leastRank(1, 0)", x.leastRank(1, 0), 1);
        CHECK.is("leastRank(0, 0)", x.leastRank(0, 0), 0);
    }

    private static void allowedWrong() {
        CHECK.part("promise 14, errors");
        LayeredCharters x = Check.charterOf("0p**;0b**5");
        CHECK.is("allowed(5, 0, 0, 0)", x.allowed(5, 0, 0, 0), Check.NO_SUCH);
        CHECK.is("allowed(0, 6, 0, 0)", x.allowed(0, 6, 0, 0), Check.NO_SUCH);
        CHECK.is("allowed(0, 0, 10, 0)", x.allowed(0, 0, 10, 0), Check.BAD_VALUE);
        CHECK.is("allowed(0, 0, 0, 2)", x.allowed(0, 0, 0, 2), Check.BAD_VALUE);
        CHECK.is("allowed(5, 0, 10, 2)", x.allowed(5, 0, 10, 2), Check.NO_SUCH);
        CHECK.is("allowed(0, 6, 10, 2)", x.allowed(0, 6, 10, 2), Check.NO_SUCH);
        for (int far : FAR) {
            CHECK.is("allowed(" + far + ", 0, 0, 0)", x.allowed(far, 0, 0, 0), Check.NO_SUCH);
            CHECK.is("allowed(0, " + far + ", 0, 0)", x.allowed(0, far, 0, 0), Check.NO_SUCH);
            CHECK.is("allowed(0, 0, " + far + ", 0)", x.allowed(0, 0, far, 0), Check.BAD_VALUE);
            CHECK.is("allowed(0, 0, 0, " + far + ")", x.allowed(0, 0, 0, far), Check.BAD_VALUE);
        }
        bothWays(x, 4, 5, 9, 1);
    }

    private static void why() {
        CHECK.part("promise 15");
        LayeredCharters x = Check.charterOf("1b*25;0p*2;3b027");
        CHECK.is("why(0, 2, 4)", x.why(0, 2, 4), 0);
        CHECK.is("why(0, 2, 5)", x.why(0, 2, 5), 2);
        CHECK.is("why(0, 2, 6)", x.why(0, 2, 6), 2);
        CHECK.is("why(0, 2, 7)", x.why(0, 2, 7), Check.NONE);
        CHECK.is("why(4, 2, 5)", x.why(4, 2, 5), Check.NONE);
        CHECK.is("why(4, 2, 0)", x.why(4, 2, 0), 0);
        CHECK.is("why(0, 1, 0)", x.why(0, 1, 0), 100);
        CHECK.is("why(4, 5, 9)", x.why(4, 5, 9), 100);
        x.strike(1);
        CHECK.is("why(0, 2, 0), without a permit", x.why(0, 2, 0), 100);
    }

    private static void whyOutermost() {
        CHECK.part("promise 15, of several bans");
        LayeredCharters x = Check.charterOf("0p**;3b**9;2b**5;1b**3;2b**8;1b**3");
        CHECK.is("why(0, 0, 0)", x.why(0, 0, 0), 3);
        CHECK.is("why(0, 0, 3)", x.why(0, 0, 3), 2);
        CHECK.is("why(0, 0, 5)", x.why(0, 0, 5), 4);
        CHECK.is("why(0, 0, 8)", x.why(0, 0, 8), 1);
        CHECK.is("why(0, 0, 9)", x.why(0, 0, 9), Check.NONE);
        x.add(1, 2, 0, 0, 5);
        CHECK.is("why(0, 0, 0), some lifted", x.why(0, 0, 0), 4);
        CHECK.is("why(0, 1, 0)", x.why(0, 1, 0), 3);
        x.move(1, 0);
        CHECK.is("why(0, 0, 0), one moved outside", x.why(0, 0, 0), 1);
        CHECK.is("why(0, 1, 0)", x.why(0, 1, 0), 1);
    }

    private static void whyWrong() {
        CHECK.part("promise 15, errors");
        LayeredCharters x = Check.charterOf("0p**");
        CHECK.is("why(5, 0, 0)", x.why(5, 0, 0), Check.NO_SUCH);
        CHECK.is("why(0, 6, 0)", x.why(0, 6, 0), Check.NO_SUCH);
        CHECK.is("why(0, 0, 10)", x.why(0, 0, 10), Check.BAD_VALUE);
        CHECK.is("why(5, 0, 10)", x.why(5, 0, 10), Check.NO_SUCH);
        CHECK.is("why(0, 6, -1)", x.why(0, 6, -1), Check.NO_SUCH);
        for (int far : FAR) {
            CHECK.is("why(" + far + ", 0, 0)", x.why(far, 0, 0), Check.NO_SUCH);
            CHECK.is("why(0, " + far + ", 0)", x.why(0, far, 0), Check.NO_SUCH);
            CHECK.is("why(0, 0, " + far + ")", x.why(0, 0, far), Check.BAD_VALUE);
        }
    }

    private static void count() {
        CHECK.part("promise 16");
        LayeredCharters x = Check.charterOf("0p0*;0p1*;1b0*9;2b1*9;3b*09;0w*05");
        x.seal(5, 4);
        x.join(0, 8);
        x.join(1, 8);
        x.join(2, 8);
        x.act(0, 0);
        x.act(1, 1);
        x.act(1, 1);
        x.act(2, 2);
        x.act(2, 2);
        x.act(2, 2);
        x.rank(0, 9);
        x.act(0, 0);
        x.leave(0);
        Check.write(x, "0p**;12");
        int[] want = {6, 2, 3, 1, 2, 7, 12, 2, 1, 0, 1, 2, 0, 0, 3, 7, 6};
        for (int what = 0; what < want.length; what++) CHECK.is("count(" + what + ")", x.count(what), want[what]);
    }

    private static void countFirstRule() {
        CHECK.part("promise 16, the rule 0");
        LayeredCharters x = Check.charterOf("3b*14;0p**;1w019");
        int[] want = {3, 1, 1, 1, 0, 2, 300 - 4 * 4};
        for (int what = 0; what < want.length; what++) CHECK.is("count(" + what + ")", x.count(what), want[what]);
        x = Check.charterOf("0w**9;0p**;1w019");
        int[] idle = {3, 1, 0, 2, 2, 0, 300};
        for (int what = 0; what < idle.length; what++) CHECK.is("count(" + what + ")", x.count(what), idle[what]);
    }

    private static void countTriples() {
        CHECK.part("promise 16, triples");
        LayeredCharters x = new LayeredCharters();
        CHECK.is("count(6)", x.count(6), 0);
        x.add(0, 0, 5, 6, 1);
        CHECK.is("count(6)", x.count(6), 300);
        for (int seal = 1; seal <= 9; seal++) {
            x.add(2, 1, 5, 6, seal);
            CHECK.is("count(6) with a ban of the seal " + seal, x.count(6), 300 - 30 * seal);
            x.strike(1);
        }
        x.add(2, 1, 3, 6, 9);
        x.add(1, 1, 5, 2, 4);
        CHECK.is("count(6)", x.count(6), 300 - 54 - 16);
        x.add(1, 2, 3, 2, 9);
        CHECK.is("count(6)", x.count(6), 300 - 45 - 16);
        x.strike(0);
        CHECK.is("count(6) without a permit", x.count(6), 0);
    }

    private static void countWrong() {
        CHECK.part("promise 16, errors");
        LayeredCharters x = Check.charterOf("0p**");
        CHECK.is("count(17)", x.count(17), Check.BAD_VALUE);
        for (int far : FAR) CHECK.is("count(" + far + ")", x.count(far), Check.BAD_VALUE);
    }

    private static void leastRank() {
        CHECK.part("promise 17");
        LayeredCharters x = Check.charterOf("0p0*;0p45;1b011;1b029;2b023;3b034;4b031;0w041;3b041;0b455");
        int[] want = {0, 1, 9, 4, 0, 0};
        for (int deed = 0; deed < 6; deed++) CHECK.is("leastRank(0, " + deed + ")", x.leastRank(0, deed), want[deed]);
        CHECK.is("leastRank(4, 5)", x.leastRank(4, 5), 5);
        CHECK.is("leastRank(4, 4)", x.leastRank(4, 4), Check.NONE);
        CHECK.is("leastRank(1, 0)", x.leastRank(1, 0), Check.NONE);
        x.add(4, 2, 5, 6, 9);
        CHECK.is("leastRank(0, 3), the inner one lifted", x.leastRank(0, 3), 4);
        x.move(10, 2);
        CHECK.is("leastRank(0, 3), both lifted", x.leastRank(0, 3), 0);
        CHECK.is("leastRank(0, 2), the outer one left", x.leastRank(0, 2), 9);
    }

    private static void leastRankWrong() {
        CHECK.part("promise 17, errors");
        LayeredCharters x = Check.charterOf("0p**");
        CHECK.is("leastRank(5, 0)", x.leastRank(5, 0), Check.NO_SUCH);
        CHECK.is("leastRank(0, 6)", x.leastRank(0, 6), Check.NO_SUCH);
        for (int far : FAR) {
            CHECK.is("leastRank(" + far + ", 0)", x.leastRank(far, 0), Check.NO_SUCH);
            CHECK.is("leastRank(0, " + far + ")", x.leastRank(0, far), Check.NO_SUCH);
        }
    }

    private static void ifStruck() {
        CHECK.part("promise 18");
        LayeredCharters x = Check.charterOf("0p**;1b0*5;2b007;2w1*9;2w009;2b**2");
        String before = Check.view(x);
        int[] want = {766, 1020, 1000, 988, 998, 1036};
        for (int i = 0; i < want.length; i++) CHECK.is("ifStruck(" + i + ")", x.ifStruck(i), want[i]);
        CHECK.isText("what ifStruck left", Check.view(x), before);
        CHECK.is("ifStruck(6)", x.ifStruck(6), Check.NO_SUCH);
        for (int far : FAR) CHECK.is("ifStruck(" + far + ")", x.ifStruck(far), Check.NO_SUCH);
        LayeredCharters all = Check.charterOf("0p**");
        CHECK.is("ifStruck(0) of the only permit", all.ifStruck(0), 700);
        all.add(0, 1, 5, 6, 9);
        CHECK.is("ifStruck(1) of the only ban", all.ifStruck(1), 1270);
        CHECK.is("ifStruck(0)", all.ifStruck(0), 970);
    }

    private static void worstBan() {
        CHECK.part("promise 19");
        LayeredCharters x = new LayeredCharters();
        CHECK.is("worstBan() without rules", x.worstBan(), Check.NONE);
        x = Check.charterOf("0p**;0w015");
        CHECK.is("worstBan() without bans", x.worstBan(), Check.NONE);
        x.add(3, 1, 0, 1, 4);
        CHECK.is("worstBan(), an idle one", x.worstBan(), 2);
        x.add(3, 1, 1, 1, 4);
        CHECK.is("worstBan()", x.worstBan(), 3);
        x.add(3, 1, 2, 1, 4);
        CHECK.is("worstBan(), the lowest of two", x.worstBan(), 3);
        x.add(0, 1, 3, 1, 5);
        CHECK.is("worstBan(), the last", x.worstBan(), 5);
        String before = Check.view(x);
        x.worstBan();
        CHECK.isText("what worstBan left", Check.view(x), before);
        x = Check.charterOf("1b**9;2b**9;0p**");
        CHECK.is("worstBan() of two idle ones", x.worstBan(), 0);
        x.strike(2);
        CHECK.is("worstBan() without permits", x.worstBan(), 0);
    }

    private static void bestWaiver() {
        CHECK.part("promise 20");
        LayeredCharters x = new LayeredCharters();
        CHECK.is("bestWaiver(1) without rules", x.bestWaiver(1), 4);
        CHECK.is("bestWaiver(9) without rules", x.bestWaiver(9), 4);
        x = Check.charterOf("0p**;3b005;2b016;1b0*1;0b119");
        int[] want = {-1, 1, 1, 1, 1, 1, 1, 1, 1, 0};
        for (int seal = 1; seal <= 9; seal++) CHECK.is("bestWaiver(" + seal + ")", x.bestWaiver(seal), want[seal]);
        x.strike(4);
        x.strike(3);
        int[] less = {-1, 4, 4, 4, 4, 3, 2, 2, 2, 2};
        String before = Check.view(x);
        for (int seal = 1; seal <= 9; seal++) CHECK.is("bestWaiver(" + seal + ")", x.bestWaiver(seal), less[seal]);
        CHECK.isText("what bestWaiver left", Check.view(x), before);
        CHECK.is("bestWaiver(0)", x.bestWaiver(0), Check.BAD_VALUE);
        CHECK.is("bestWaiver(10)", x.bestWaiver(10), Check.BAD_VALUE);
        for (int far : FAR) CHECK.is("bestWaiver(" + far + ")", x.bestWaiver(far), Check.BAD_VALUE);
        // A waiver that is there already leaves nothing to win further outside.
        x = Check.charterOf("0p**;1b**5;0w**7;4b**9");
        CHECK.is("bestWaiver(7)", x.bestWaiver(7), 4);
        CHECK.is("bestWaiver(9)", x.bestWaiver(9), 4);
    }

    private static void bestWaiverOf24() {
        CHECK.part("promise 20, 24 rules");
        LayeredCharters x = Check.charterOf("0p**;3b005;2b016");
        for (int i = 3; i < 24; i++) x.add(4, 1, 0, 0, 1);
        CHECK.is("bestWaiver(4)", x.bestWaiver(4), 4);
        CHECK.is("bestWaiver(5)", x.bestWaiver(5), 3);
        CHECK.is("bestWaiver(6)", x.bestWaiver(6), 2);
        CHECK.is("count(0)", x.count(0), 24);
        CHECK.is("count(3)", x.count(3), 0);
    }
}
