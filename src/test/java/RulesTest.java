/** Promises 1 to 7 and 12: a new object, the rules, reading them, tidying, and what there is about a rule. */
public final class RulesTest {
    private static final Check CHECK = new Check("RulesTest");

    public static void main(String[] args) {
        newObject();
        addOrdinary();
        addEdges();
        addWrong();
        addUpTo24();
        strike();
        seal();
        sealMatters();
        move();
        moveMatters();
        read();
        readTooMany();
        tidy();
        tidyBeginsAgain();
        rule();
        ruleIdle();
        ruleOdds();
        rulePairs();
        CHECK.end();
    }

    private static void newObject() {
        CHECK.part("promise 1");
        LayeredCharters x = new LayeredCharters();
        for (int what = 0; what <= 16; what++) CHECK.is("count(" + what + ")", x.count(what), 0);
        for (int craft = 0; craft < 5; craft++) {
            for (int deed = 0; deed < 6; deed++) CHECK.is("why", x.why(craft, deed, 9), 100);
        }
        CHECK.is("rule(0, 0)", x.rule(0, 0), Check.NO_SUCH);
        CHECK.is("member(0, 0)", x.member(0, 0), Check.NO_SUCH);
        CHECK.is("fault()", x.fault(), 0);
        CHECK.is("undo()", x.undo(), Check.NOT_POSSIBLE);
        CHECK.is("restore(0)", x.restore(0), Check.NOT_POSSIBLE);
        CHECK.is("restore(1)", x.restore(1), Check.NOT_POSSIBLE);
        LayeredCharters other = new LayeredCharters();
        x.add(0, 0, 5, 6, 1);
        CHECK.is("count(0) of another", other.count(0), 0);
    }

    private static void addOrdinary() {
        CHECK.part("promise 2");
        LayeredCharters x = new LayeredCharters();
        CHECK.is("add(0, 0, 1, 2, 7)", x.add(0, 0, 1, 2, 7), 0);
        CHECK.is("add(3, 1, 5, 4, 2)", x.add(3, 1, 5, 4, 2), 1);
        CHECK.is("add(2, 2, 3, 6, 9)", x.add(2, 2, 3, 6, 9), 2);
        CHECK.isText("rule 0", Check.five(x, 0), "0 0 1 2 7");
        CHECK.isText("rule 1", Check.five(x, 1), "3 1 5 4 2");
        CHECK.isText("rule 2", Check.five(x, 2), "2 2 3 6 9");
        CHECK.is("count(16)", x.count(16), 3);
    }

    private static void addEdges() {
        CHECK.part("promise 2, edges");
        LayeredCharters x = new LayeredCharters();
        CHECK.is("add(0, 0, 0, 0, 1)", x.add(0, 0, 0, 0, 1), 0);
        CHECK.is("add(4, 2, 5, 6, 9)", x.add(4, 2, 5, 6, 9), 1);
        CHECK.is("add(4, 1, 4, 5, 9)", x.add(4, 1, 4, 5, 9), 2);
        CHECK.isText("rule 0", Check.five(x, 0), "0 0 0 0 1");
        CHECK.isText("rule 1", Check.five(x, 1), "4 2 5 6 9");
        CHECK.isText("rule 2", Check.five(x, 2), "4 1 4 5 9");
    }

    private static void refuseAdd(LayeredCharters x, int layer, int kind, int craft, int deed, int seal, int want) {
        String call = "add(" + layer + ", " + kind + ", " + craft + ", " + deed + ", " + seal + ")";
        CHECK.refused(x, Check.view(x), call, x.add(layer, kind, craft, deed, seal), want);
    }

    private static void addWrong() {
        CHECK.part("promise 2, errors");
        LayeredCharters x = Check.charterOf("0p**;1b0*5");
        int[] far = {-1, Integer.MIN_VALUE, Integer.MAX_VALUE};
        for (int i = -1; i < far.length; i++) {
            refuseAdd(x, i < 0 ? 5 : far[i], 1, 0, 0, 1, Check.NO_SUCH);
            refuseAdd(x, 0, 1, i < 0 ? 6 : far[i], 0, 1, Check.NO_SUCH);
            refuseAdd(x, 0, 1, 0, i < 0 ? 7 : far[i], 1, Check.NO_SUCH);
            refuseAdd(x, 0, i < 0 ? 3 : far[i], 0, 0, 1, Check.BAD_VALUE);
            refuseAdd(x, 0, 1, 0, 0, i < 0 ? 10 : far[i], Check.BAD_VALUE);
        }
        refuseAdd(x, 0, 1, 0, 0, 0, Check.BAD_VALUE);
        refuseAdd(x, 0, 0, 0, 0, 0, Check.BAD_VALUE);
        for (int layer = 1; layer <= 4; layer++) refuseAdd(x, layer, 0, 5, 6, 5, Check.NOT_POSSIBLE);
        // Two errors at once: the first of the document's order is answered.
        refuseAdd(x, 5, 3, 0, 0, 1, Check.NO_SUCH);
        refuseAdd(x, 0, 3, 6, 0, 1, Check.NO_SUCH);
        refuseAdd(x, 0, 1, 0, 7, 10, Check.NO_SUCH);
        refuseAdd(x, 5, 0, 0, 0, 1, Check.NO_SUCH);
        refuseAdd(x, 1, 0, 0, 0, 10, Check.BAD_VALUE);
        refuseAdd(x, 1, -1, 0, 0, 1, Check.BAD_VALUE);
    }

    private static void addUpTo24() {
        CHECK.part("promise 2, 24 rules");
        LayeredCharters x = new LayeredCharters();
        for (int i = 0; i < 24; i++) CHECK.is("add, the rule " + i, x.add(i % 5, 1 + i % 2, i % 6, i % 7, 1 + i % 9), i);
        for (int i = 0; i < 24; i++) {
            String want = i % 5 + " " + (1 + i % 2) + " " + i % 6 + " " + i % 7 + " " + (1 + i % 9);
            CHECK.isText("rule " + i, Check.five(x, i), want);
        }
        refuseAdd(x, 0, 0, 0, 0, 1, Check.TOO_MANY);
        refuseAdd(x, 1, 0, 0, 0, 1, Check.NOT_POSSIBLE);
        refuseAdd(x, 1, 3, 0, 0, 1, Check.BAD_VALUE);
        refuseAdd(x, 5, 0, 0, 0, 1, Check.NO_SUCH);
        x.strike(3);
        CHECK.is("add, after one is struck", x.add(4, 2, 5, 6, 9), 23);
        CHECK.isText("rule 23", Check.five(x, 23), "4 2 5 6 9");
    }

    private static void strike() {
        CHECK.part("promise 3");
        LayeredCharters x = Check.charterOf("0p12;3b*45;2w3*9;4b013");
        CHECK.refused(x, Check.view(x), "strike(4)", x.strike(4), Check.NO_SUCH);
        CHECK.refused(x, Check.view(x), "strike(-1)", x.strike(-1), Check.NO_SUCH);
        CHECK.refused(x, Check.view(x), "strike(least)", x.strike(Integer.MIN_VALUE), Check.NO_SUCH);
        CHECK.refused(x, Check.view(x), "strike(greatest)", x.strike(Integer.MAX_VALUE), Check.NO_SUCH);
        CHECK.is("strike(1)", x.strike(1), 3);
        CHECK.isText("rule 0", Check.five(x, 0), "0 0 1 2 1");
        CHECK.isText("rule 1", Check.five(x, 1), "2 2 3 6 9");
        CHECK.isText("rule 2", Check.five(x, 2), "4 1 0 1 3");
        CHECK.is("rule(3, 0)", x.rule(3, 0), Check.NO_SUCH);
        CHECK.is("strike(2)", x.strike(2), 2);
        CHECK.is("strike(0)", x.strike(0), 1);
        CHECK.isText("rule 0", Check.five(x, 0), "2 2 3 6 9");
        CHECK.is("rule(0, 7)", x.rule(0, 7), 6);
        CHECK.is("strike(0)", x.strike(0), 0);
        CHECK.is("strike(0)", x.strike(0), Check.NO_SUCH);
        CHECK.is("count(16)", x.count(16), 6);
    }

    private static void seal() {
        CHECK.part("promise 4");
        LayeredCharters x = Check.charterOf("0p12;3b*45;2w3*9");
        CHECK.is("seal(1, 9)", x.seal(1, 9), 5);
        CHECK.is("seal(1, 1)", x.seal(1, 1), 9);
        CHECK.is("seal(1, 1)", x.seal(1, 1), 1);
        CHECK.is("seal(0, 6)", x.seal(0, 6), 1);
        CHECK.is("seal(2, 8)", x.seal(2, 8), 9);
        CHECK.isText("rule 0", Check.five(x, 0), "0 0 1 2 6");
        CHECK.isText("rule 1", Check.five(x, 1), "3 1 5 4 1");
        CHECK.isText("rule 2", Check.five(x, 2), "2 2 3 6 8");
        int[] wrong = {0, 10, -1, Integer.MIN_VALUE, Integer.MAX_VALUE};
        for (int seal : wrong) {
            CHECK.refused(x, Check.view(x), "seal(0, " + seal + ")", x.seal(0, seal), Check.BAD_VALUE);
            CHECK.refused(x, Check.view(x), "seal(3, " + seal + ")", x.seal(3, seal), Check.NO_SUCH);
        }
        CHECK.refused(x, Check.view(x), "seal(-1, 5)", x.seal(-1, 5), Check.NO_SUCH);
        CHECK.refused(x, Check.view(x), "seal(3, 5)", x.seal(3, 5), Check.NO_SUCH);
    }

    private static void sealMatters() {
        CHECK.part("promise 4, what is allowed then");
        LayeredCharters x = Check.charterOf("0p**;1b**4;1w005");
        CHECK.is("leastRank(1, 1)", x.leastRank(1, 1), 4);
        CHECK.is("leastRank(0, 0)", x.leastRank(0, 0), 0);
        x.seal(1, 6);
        CHECK.is("leastRank(1, 1)", x.leastRank(1, 1), 6);
        CHECK.is("leastRank(0, 0)", x.leastRank(0, 0), 6);
        x.seal(2, 6);
        CHECK.is("leastRank(0, 0)", x.leastRank(0, 0), 0);
        x.seal(0, 9);
        CHECK.is("leastRank(0, 0)", x.leastRank(0, 0), 0);
    }

    private static void move() {
        CHECK.part("promise 5");
        LayeredCharters x = Check.charterOf("0p12;3b*45;2w3*9");
        CHECK.is("move(1, 0)", x.move(1, 0), 3);
        CHECK.is("move(1, 4)", x.move(1, 4), 0);
        CHECK.is("move(2, 2)", x.move(2, 2), 2);
        CHECK.is("move(2, 1)", x.move(2, 1), 2);
        CHECK.is("move(0, 0)", x.move(0, 0), 0);
        CHECK.is("count(16)", x.count(16), 6);
        CHECK.isText("rule 0", Check.five(x, 0), "0 0 1 2 1");
        CHECK.isText("rule 1", Check.five(x, 1), "4 1 5 4 5");
        CHECK.isText("rule 2", Check.five(x, 2), "1 2 3 6 9");
        int[] wrong = {5, -1, Integer.MIN_VALUE, Integer.MAX_VALUE};
        for (int layer : wrong) {
            CHECK.refused(x, Check.view(x), "move(0, " + layer + ")", x.move(0, layer), Check.NO_SUCH);
            CHECK.refused(x, Check.view(x), "move(1, " + layer + ")", x.move(1, layer), Check.NO_SUCH);
        }
        CHECK.refused(x, Check.view(x), "move(3, 0)", x.move(3, 0), Check.NO_SUCH);
        CHECK.refused(x, Check.view(x), "move(-1, 0)", x.move(-1, 0), Check.NO_SUCH);
        for (int layer = 1; layer <= 4; layer++) {
            CHECK.refused(x, Check.view(x), "move(0, " + layer + ")", x.move(0, layer), Check.NOT_POSSIBLE);
        }
    }

    private static void moveMatters() {
        CHECK.part("promise 5, what is allowed then");
        LayeredCharters x = Check.charterOf("0p**;2b**7;3w**9");
        CHECK.is("leastRank(0, 0)", x.leastRank(0, 0), 7);
        x.move(2, 2);
        CHECK.is("leastRank(0, 0)", x.leastRank(0, 0), 0);
        x.move(1, 1);
        CHECK.is("leastRank(0, 0)", x.leastRank(0, 0), 7);
        x.move(2, 0);
        CHECK.is("leastRank(0, 0)", x.leastRank(0, 0), 0);
    }

    private static void read() {
        CHECK.part("promise 6");
        LayeredCharters x = new LayeredCharters();
        CHECK.refused(x, Check.view(x), "read() of an empty pad", x.read(), Check.BAD_TEXT);
        Check.write(x, "0p**;4b059;1w4*1;0p05;3b**2");
        CHECK.is("read()", x.read(), 5);
        CHECK.isText("rule 0", Check.five(x, 0), "0 0 5 6 1");
        CHECK.isText("rule 1", Check.five(x, 1), "4 1 0 5 9");
        CHECK.isText("rule 2", Check.five(x, 2), "1 2 4 6 1");
        CHECK.isText("rule 3", Check.five(x, 3), "0 0 0 5 1");
        CHECK.isText("rule 4", Check.five(x, 4), "3 1 5 6 2");
        CHECK.is("count(15)", x.count(15), 0);
        CHECK.is("count(16)", x.count(16), 1);
        CHECK.refused(x, Check.view(x), "read() of the emptied pad", x.read(), Check.BAD_TEXT);
        Check.write(x, "0w423");
        CHECK.is("read() behind them", x.read(), 6);
        CHECK.isText("rule 5", Check.five(x, 5), "0 2 4 2 3");
        CHECK.is("undo()", x.undo(), 1);
        CHECK.is("count(0)", x.count(0), 5);
        CHECK.is("count(15), as undo leaves the pad", x.count(15), 0);
        Check.write(x, "0p**;");
        CHECK.refused(x, Check.view(x), "read() of a text that ends too early", x.read(), Check.BAD_TEXT);
        Check.write(x, "1p**");
        CHECK.refused(x, Check.view(x), "read() of a text with a fault", x.read(), Check.BAD_TEXT);
    }

    private static void readTooMany() {
        CHECK.part("promise 6, 24 rules");
        LayeredCharters x = new LayeredCharters();
        for (int i = 0; i < 22; i++) x.add(0, 0, 0, 0, 1);
        Check.write(x, "0p11;1b222;0p33");
        CHECK.refused(x, Check.view(x), "read() of 3 behind 22", x.read(), Check.TOO_MANY);
        Check.write(x, "3");
        CHECK.refused(x, Check.view(x), "read() of a fault behind 22", x.read(), Check.BAD_TEXT);
        x.wipe();
        Check.write(x, "0p11;1b222");
        CHECK.is("read() of 2 behind 22", x.read(), 24);
        CHECK.isText("rule 22", Check.five(x, 22), "0 0 1 1 1");
        CHECK.isText("rule 23", Check.five(x, 23), "1 1 2 2 2");
        Check.write(x, "0p11");
        CHECK.refused(x, Check.view(x), "read() of 1 behind 24", x.read(), Check.TOO_MANY);
        LayeredCharters full = new LayeredCharters();
        Check.write(full, "0p00;0p01;0p02;0p03;0p04;0p05;0p10;0p11;0p12;0p13;0p14;0p15");
        CHECK.is("read() of 12", full.read(), 12);
        CHECK.is("count(6)", full.count(6), 120);
    }

    private static void tidy() {
        CHECK.part("promise 7");
        LayeredCharters x = new LayeredCharters();
        CHECK.is("tidy() of no rules", x.tidy(), 0);
        CHECK.is("count(16)", x.count(16), 1);
        x = Check.charterOf("0p0*;0p00;2b005;1b004;3w009;0p1*");
        CHECK.is("tidy()", x.tidy(), 3);
        CHECK.is("count(0)", x.count(0), 3);
        CHECK.isText("rule 0", Check.five(x, 0), "0 0 0 6 1");
        CHECK.isText("rule 1", Check.five(x, 1), "2 1 0 0 5");
        CHECK.isText("rule 2", Check.five(x, 2), "0 0 1 6 1");
        CHECK.is("tidy()", x.tidy(), 0);
        x.undo();
        x.undo();
        CHECK.is("count(0)", x.count(0), 6);
        LayeredCharters same = Check.charterOf("0p**;0p**");
        same.seal(0, 7);
        CHECK.is("tidy() of two of the same", same.tidy(), 1);
        CHECK.is("rule(0, 4): the second is left", same.rule(0, 4), 1);
        LayeredCharters full = new LayeredCharters();
        for (int i = 0; i < 24; i++) full.add(i % 5, 1 + i % 2, 5, 6, 5);
        CHECK.is("tidy() of 24 idle ones", full.tidy(), 24);
        CHECK.is("count(0)", full.count(0), 0);
    }

    private static void tidyBeginsAgain() {
        CHECK.part("promise 7, one before becomes idle");
        LayeredCharters x = Check.charterOf("0p**;0b**9;4w**9;4b**9");
        CHECK.is("rule(0, 5)", x.rule(0, 5), 0);
        CHECK.is("rule(1, 5)", x.rule(1, 5), 0);
        CHECK.is("rule(2, 5)", x.rule(2, 5), 1);
        CHECK.is("rule(3, 5)", x.rule(3, 5), 1);
        CHECK.is("tidy()", x.tidy(), 2);
        CHECK.isText("rule 1", Check.five(x, 1), "4 1 5 6 9");
        LayeredCharters y = Check.charterOf("0p**;0b**9;4b**9;4w**9");
        CHECK.is("tidy()", y.tidy(), 2);
        CHECK.isText("rule 1", Check.five(y, 1), "0 1 5 6 9");
    }

    private static void rule() {
        CHECK.part("promise 12");
        LayeredCharters x = Check.charterOf("0p12;3b*45;2w3*9");
        CHECK.isText("rule 0", Check.ruleView(x, 0), "0 0 1 2 1 0 0 1 ");
        CHECK.isText("rule 1", Check.ruleView(x, 1), "3 1 5 4 5 1 1 5 ");
        CHECK.isText("rule 2", Check.ruleView(x, 2), "2 2 3 6 9 1 1 6 ");
        int[] wrong = {8, -1, Integer.MIN_VALUE, Integer.MAX_VALUE};
        for (int what : wrong) {
            CHECK.refused(x, Check.view(x), "rule(0, " + what + ")", x.rule(0, what), Check.BAD_VALUE);
            CHECK.refused(x, Check.view(x), "rule(3, " + what + ")", x.rule(3, what), Check.NO_SUCH);
        }
        for (int what = 0; what <= 7; what++) {
            CHECK.is("rule(3, " + what + ")", x.rule(3, what), Check.NO_SUCH);
            CHECK.is("rule(-1, " + what + ")", x.rule(-1, what), Check.NO_SUCH);
        }
        CHECK.is("rule(least, 0)", x.rule(Integer.MIN_VALUE, 0), Check.NO_SUCH);
        CHECK.is("rule(greatest, 0)", x.rule(Integer.MAX_VALUE, 0), Check.NO_SUCH);
        CHECK.is("count(16)", x.count(16), 3);
    }

    private static void ruleIdle() {
        CHECK.part("promise 12, idle");
        LayeredCharters x = Check.charterOf("0p**;1b**5;1b004;2w009;0w111;4b129");
        int[] idle = {0, 0, 1, 1, 1, 0};
        for (int i = 0; i < idle.length; i++) CHECK.is("rule(" + i + ", 5)", x.rule(i, 5), idle[i]);
        CHECK.is("count(4)", x.count(4), 3);
        x.move(3, 1);
        CHECK.is("rule(3, 5), when it lifts", x.rule(3, 5), 0);
        CHECK.is("rule(2, 5), when it is lifted", x.rule(2, 5), 1);
    }

    private static void ruleOdds() {
        CHECK.part("promise 12, at odds");
        LayeredCharters x = Check.charterOf("0p**;0p0*;0p11;1b0*5;2b*13;0w1*9;4w009;3b425");
        int[] odds = {3, 2, 1, 3, 4, 1, 1, 1};
        for (int i = 0; i < odds.length; i++) CHECK.is("rule(" + i + ", 6)", x.rule(i, 6), odds[i]);
        CHECK.is("count(5)", x.count(5), 8);
    }

    private static void rulePairs() {
        CHECK.part("promise 12, pairs");
        LayeredCharters x = Check.charterOf("0p**;0p3*;0p*4;0p34;1b**5;1w2*5");
        int[] pairs = {30, 6, 5, 1, 30, 6};
        for (int i = 0; i < pairs.length; i++) CHECK.is("rule(" + i + ", 7)", x.rule(i, 7), pairs[i]);
    }
}
