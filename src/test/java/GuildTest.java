/** Promises 8 to 11 and 13: members, and the deeds that they do or are refused. */
public final class GuildTest {
    private static final Check CHECK = new Check("GuildTest");
    private static final int[] FAR = {-1, Integer.MIN_VALUE, Integer.MAX_VALUE};

    public static void main(String[] args) {
        join();
        joinWrong();
        leave();
        leaveOf10();
        rank();
        act();
        actCountsForLayers();
        actWrong();
        member();
        memberDeeds();
        CHECK.end();
    }

    private static String fiveOf(LayeredCharters x, int member) {
        StringBuilder view = new StringBuilder();
        for (int what = 0; what <= 4; what++) view.append(what == 0 ? "" : " ").append(x.member(member, what));
        return view.toString();
    }

    private static void join() {
        CHECK.part("promise 8");
        LayeredCharters x = new LayeredCharters();
        CHECK.is("join(0, 0)", x.join(0, 0), 0);
        CHECK.is("join(4, 9)", x.join(4, 9), 1);
        CHECK.isText("member 0", fiveOf(x, 0), "0 0 0 0 0");
        CHECK.isText("member 1", fiveOf(x, 1), "4 9 0 0 0");
        CHECK.is("count(16)", x.count(16), 2);
        for (int i = 2; i < 10; i++) CHECK.is("join, the member " + i, x.join(i % 5, i), i);
        CHECK.is("count(7)", x.count(7), 10);
        CHECK.refused(x, Check.view(x), "join(0, 0), the eleventh", x.join(0, 0), Check.TOO_MANY);
        CHECK.refused(x, Check.view(x), "join(0, 10), the eleventh", x.join(0, 10), Check.BAD_VALUE);
        CHECK.refused(x, Check.view(x), "join(5, 0), the eleventh", x.join(5, 0), Check.NO_SUCH);
        CHECK.isText("member 9", fiveOf(x, 9), "4 9 0 0 0");
        x.leave(2);
        CHECK.is("join(1, 1), after one left", x.join(1, 1), 9);
        CHECK.isText("member 9", fiveOf(x, 9), "1 1 0 0 0");
    }

    private static void joinWrong() {
        CHECK.part("promise 8, errors");
        LayeredCharters x = new LayeredCharters();
        x.join(2, 2);
        CHECK.refused(x, Check.view(x), "join(5, 0)", x.join(5, 0), Check.NO_SUCH);
        CHECK.refused(x, Check.view(x), "join(0, 10)", x.join(0, 10), Check.BAD_VALUE);
        CHECK.refused(x, Check.view(x), "join(5, 10)", x.join(5, 10), Check.NO_SUCH);
        for (int far : FAR) {
            CHECK.refused(x, Check.view(x), "join(" + far + ", 0)", x.join(far, 0), Check.NO_SUCH);
            CHECK.refused(x, Check.view(x), "join(0, " + far + ")", x.join(0, far), Check.BAD_VALUE);
        }
    }

    private static void leave() {
        CHECK.part("promise 9");
        LayeredCharters x = Check.charterOf("0p0*;0p10");
        x.join(0, 1);
        x.join(1, 2);
        x.join(2, 3);
        x.act(0, 1);
        x.act(1, 0);
        x.act(1, 0);
        x.act(1, 1);
        x.act(2, 0);
        x.act(2, 1);
        CHECK.refused(x, Check.view(x), "leave(3)", x.leave(3), Check.NO_SUCH);
        for (int far : FAR) CHECK.refused(x, Check.view(x), "leave(" + far + ")", x.leave(far), Check.NO_SUCH);
        CHECK.is("leave(1)", x.leave(1), 2);
        CHECK.is("count(7)", x.count(7), 2);
        CHECK.isText("member 0", fiveOf(x, 0), "0 1 63 1 0");
        CHECK.isText("member 1", fiveOf(x, 1), "2 3 0 0 2");
        CHECK.is("member(2, 0)", x.member(2, 0), Check.NO_SUCH);
        CHECK.is("count(8), also of who left", x.count(8), 3);
        CHECK.is("count(14), also of who left", x.count(14), 3);
        CHECK.is("leave(1)", x.leave(1), 0);
        CHECK.is("leave(0)", x.leave(0), 1);
        CHECK.is("leave(0)", x.leave(0), Check.NO_SUCH);
        CHECK.is("join(3, 3)", x.join(3, 3), 0);
        CHECK.isText("the next member 0", fiveOf(x, 0), "3 3 0 0 0");
        CHECK.is("undo()", x.undo(), 5);
        x.undo();
        x.undo();
        CHECK.is("undo() of the first that left", x.undo(), 2);
        CHECK.isText("member 1", fiveOf(x, 1), "1 2 1 2 1");
    }

    private static void leaveOf10() {
        CHECK.part("promise 9, 10 members");
        LayeredCharters x = Check.charterOf("0p*0");
        for (int i = 0; i < 10; i++) x.join(i % 5, i);
        for (int i = 0; i < 10; i++) {
            for (int times = 0; times <= i; times++) x.act(i, 0);
            for (int times = 0; times <= 2 * i; times++) x.act(i, 1);
        }
        for (int gone = 0; gone < 3; gone++) CHECK.is("leave(4)", x.leave(4), 5 + gone);
        for (int member = 0; member < 7; member++) {
            int was = member < 4 ? member : member + 3;
            String want = was % 5 + " " + was + " 1 " + (was + 1) + " " + (2 * was + 1);
            CHECK.isText("member " + member, fiveOf(x, member), want);
        }
        CHECK.is("undo()", x.undo(), 5);
        CHECK.isText("member 4", fiveOf(x, 4), "1 6 1 7 13");
        CHECK.is("leave(0)", x.leave(0), 1);
        for (int i = 7; i < 10; i++) {
            CHECK.is("join(2, 2)", x.join(2, 2), i);
            CHECK.isText("member " + i, fiveOf(x, i), "2 2 1 0 0");
        }
        CHECK.is("leave(9)", x.leave(9), 0);
        x = Check.charterOf("0p*0");
        for (int i = 0; i < 10; i++) x.join(0, 0);
        x.act(9, 0);
        x.act(9, 1);
        x.leave(0);
        CHECK.is("join(1, 1)", x.join(1, 1), 9);
        CHECK.isText("member 8", fiveOf(x, 8), "0 0 1 1 1");
        CHECK.isText("member 9", fiveOf(x, 9), "1 1 1 0 0");
    }

    private static void rank() {
        CHECK.part("promise 10");
        LayeredCharters x = Check.charterOf("0p**;0b**9");
        x.join(0, 4);
        x.join(1, 5);
        CHECK.is("rank(0, 9)", x.rank(0, 9), 4);
        CHECK.is("rank(0, 0)", x.rank(0, 0), 9);
        CHECK.is("rank(0, 0)", x.rank(0, 0), 0);
        CHECK.is("rank(1, 9)", x.rank(1, 9), 5);
        CHECK.isText("member 0", fiveOf(x, 0), "0 0 0 0 0");
        CHECK.isText("member 1", fiveOf(x, 1), "1 9 63 0 0");
        CHECK.is("count(16)", x.count(16), 6);
        CHECK.refused(x, Check.view(x), "rank(2, 5)", x.rank(2, 5), Check.NO_SUCH);
        CHECK.refused(x, Check.view(x), "rank(2, 10)", x.rank(2, 10), Check.NO_SUCH);
        CHECK.refused(x, Check.view(x), "rank(1, 10)", x.rank(1, 10), Check.BAD_VALUE);
        for (int far : FAR) {
            CHECK.refused(x, Check.view(x), "rank(" + far + ", 5)", x.rank(far, 5), Check.NO_SUCH);
            CHECK.refused(x, Check.view(x), "rank(1, " + far + ")", x.rank(1, far), Check.BAD_VALUE);
        }
    }

    private static void act() {
        CHECK.part("promise 11");
        LayeredCharters x = Check.charterOf("0p0*;3b005;1b026;0w025");
        x.join(0, 4);
        CHECK.is("act(0, 1)", x.act(0, 1), Check.NONE);
        CHECK.is("act(0, 0)", x.act(0, 0), 1);
        CHECK.is("act(0, 2)", x.act(0, 2), 2);
        CHECK.isText("member 0", fiveOf(x, 0), "0 4 58 1 2");
        x.rank(0, 5);
        CHECK.is("act(0, 0)", x.act(0, 0), Check.NONE);
        CHECK.is("act(0, 2)", x.act(0, 2), 2);
        x.seal(3, 6);
        CHECK.is("act(0, 2)", x.act(0, 2), Check.NONE);
        CHECK.is("act(0, 5)", x.act(0, 5), Check.NONE);
        CHECK.isText("member 0", fiveOf(x, 0), "0 5 63 4 3");
        CHECK.is("count(8)", x.count(8), 4);
        CHECK.is("count(12)", x.count(12), 1);
        CHECK.is("count(10)", x.count(10), 2);
        CHECK.is("count(16)", x.count(16), 6);
        x.join(1, 9);
        CHECK.is("act(1, 0)", x.act(1, 0), 100);
        CHECK.isText("member 1", fiveOf(x, 1), "1 9 0 0 1");
        CHECK.is("count(14)", x.count(14), 1);
        CHECK.is("undo() of a refusal", x.undo(), 5);
        CHECK.is("count(14)", x.count(14), 0);
        CHECK.isText("member 1", fiveOf(x, 1), "1 9 0 0 0");
        x.undo();
        CHECK.is("undo() of a deed", x.undo(), 3);
        CHECK.is("count(8)", x.count(8), 3);
        CHECK.isText("member 0", fiveOf(x, 0), "0 5 63 3 3");
    }

    private static void actCountsForLayers() {
        CHECK.part("promise 11, counted for layers");
        LayeredCharters x = Check.charterOf("0p0*;0b009;1b019;2b029;3b039;4b049");
        x.join(0, 8);
        for (int deed = 0; deed < 5; deed++) {
            for (int times = 0; times <= deed; times++) CHECK.is("act(0, " + deed + ")", x.act(0, deed), deed + 1);
        }
        CHECK.is("act(0, 5)", x.act(0, 5), Check.NONE);
        for (int layer = 0; layer < 5; layer++) CHECK.is("count(" + (9 + layer) + ")", x.count(9 + layer), layer + 1);
        CHECK.is("count(14)", x.count(14), 0);
        CHECK.is("count(8)", x.count(8), 1);
        CHECK.is("member(0, 4)", x.member(0, 4), 15);
        x.move(5, 2);
        CHECK.is("act(0, 4), moved", x.act(0, 4), 5);
        CHECK.is("count(11)", x.count(11), 4);
        CHECK.is("count(13)", x.count(13), 5);
        x.strike(0);
        CHECK.is("act(0, 5), without a permit", x.act(0, 5), 100);
        CHECK.is("count(14)", x.count(14), 1);
        CHECK.is("member(0, 4)", x.member(0, 4), 17);
    }

    private static void actWrong() {
        CHECK.part("promise 11, errors");
        LayeredCharters x = Check.charterOf("0p**");
        CHECK.refused(x, Check.view(x), "act(0, 0)", x.act(0, 0), Check.NO_SUCH);
        x.join(0, 0);
        CHECK.refused(x, Check.view(x), "act(1, 0)", x.act(1, 0), Check.NO_SUCH);
        CHECK.refused(x, Check.view(x), "act(0, 6)", x.act(0, 6), Check.NO_SUCH);
        for (int far : FAR) {
            CHECK.refused(x, Check.view(x), "act(" + far + ", 0)", x.act(far, 0), Check.NO_SUCH);
            CHECK.refused(x, Check.view(x), "act(0, " + far + ")", x.act(0, far), Check.NO_SUCH);
        }
    }

    private static void member() {
        CHECK.part("promise 13");
        LayeredCharters x = Check.charterOf("0p3*");
        x.join(3, 7);
        x.act(0, 0);
        CHECK.isText("member 0", fiveOf(x, 0), "3 7 63 1 0");
        int[] wrong = {5, -1, Integer.MIN_VALUE, Integer.MAX_VALUE};
        for (int what : wrong) {
            CHECK.refused(x, Check.view(x), "member(0, " + what + ")", x.member(0, what), Check.BAD_VALUE);
            CHECK.refused(x, Check.view(x), "member(1, " + what + ")", x.member(1, what), Check.NO_SUCH);
        }
        for (int far : FAR) CHECK.is("member(" + far + ", 0)", x.member(far, 0), Check.NO_SUCH);
        for (int what = 0; what <= 4; what++) CHECK.is("member(1, " + what + ")", x.member(1, what), Check.NO_SUCH);
        CHECK.is("count(16)", x.count(16), 3);
    }

    private static void memberDeeds() {
        CHECK.part("promise 13, deeds as a set");
        LayeredCharters x = Check.charterOf("0p*0;0p13;0p4*;2b455;1b*02;0w209");
        for (int craft = 0; craft < 5; craft++) x.join(craft, 1);
        int[] low = {0, 8, 1, 0, 30};
        for (int craft = 0; craft < 5; craft++) CHECK.is("member(" + craft + ", 2)", x.member(craft, 2), low[craft]);
        for (int craft = 0; craft < 5; craft++) x.rank(craft, 2);
        int[] high = {1, 9, 1, 1, 31};
        for (int craft = 0; craft < 5; craft++) CHECK.is("member(" + craft + ", 2)", x.member(craft, 2), high[craft]);
        x.rank(4, 5);
        CHECK.is("member(4, 2)", x.member(4, 2), 63);
    }
}
