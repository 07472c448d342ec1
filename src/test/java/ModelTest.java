/**
 * All promises: runs of mixed calls, each of whose answers has to be the model's. The runs are the same each time, and no
 * object is asked more often than 512 times: what there is to be asked at once is asked behind a run that is made anew.
 */
public final class ModelTest {
    private static final Check CHECK = new Check("ModelTest");
    private static final int RUNS = 100, CALLS = 512, PARTS = 4;
    private static final int[] CALLS_AHEAD = {25, 60, 120, 210};
    private static final String SIGNS = "0123456789*;pbw";

    private final LayeredCharters x = new LayeredCharters();
    private final Model model = new Model();
    private long seed;

    private ModelTest(long seed) {
        this.seed = seed;
    }

    public static void main(String[] args) {
        for (int run = 0; run < RUNS; run++) {
            CHECK.part("run " + run);
            new ModelTest(run).run(run % 4, CALLS);
            for (int ahead : CALLS_AHEAD) {
                for (int part = 0; part < PARTS; part++) {
                    ModelTest again = new ModelTest(run);
                    again.run(run % 4, ahead);
                    again.askPart(part);
                }
            }
        }
        CHECK.end();
    }

    private int upTo(int bound) {
        seed = seed * 6364136223846793005L + 1442695040888963407L;
        return (int) ((seed >>> 33) % bound);
    }

    /** Mostly a value of the range, at times one beyond it. */
    private int near(int least, int greatest) {
        int dice = upTo(40);
        if (dice == 0) return least - 1;
        if (dice == 1) return greatest + 1;
        if (dice == 2) return upTo(2) == 0 ? Integer.MIN_VALUE : Integer.MAX_VALUE;
        return least + upTo(greatest - least + 1);
    }

    private void run(int sort, int calls) {
        if (sort != 0) CHECK.is("add(0, 0, 5, 6, 1)", x.add(0, 0, 5, 6, 1), model.add(0, 0, 5, 6, 1));
        for (int call = sort == 0 ? 0 : 1; call < calls; call++) {
            int dice = upTo(100);
            if (dice < 30) build(sort);
            else if (dice < 50) guild();
            else if (dice < 80) ask();
            else if (dice < 90) text();
            else keep();
        }
    }

    /** Up to 300 calls. */
    private void askPart(int part) {
        if (part == 0) {
            askAll();
            return;
        }
        for (int i = 0; i < 300; i++) {
            int craft = i / 60;
            int deed = i / 10 % 6;
            int rank = i % 10;
            if (part == 1) askWhy(craft, deed, rank);
            else askAllowed(craft, deed, rank, part - 2);
        }
    }

    private void askAll() {
        for (int what = 0; what <= 16; what++) askCount(what);
        for (int i = 0; i < 24 * 8; i++) askRule(i / 8, i % 8);
        for (int i = 0; i < 10 * 5; i++) askMember(i / 5, i % 5);
        for (int seal = 1; seal <= 9; seal++) askBestWaiver(seal);
        CHECK.is("worstBan()", x.worstBan(), model.worstBan());
        CHECK.is("fault()", x.fault(), model.fault());
    }

    private void askCount(int what) {
        CHECK.is("count(" + what + ")", x.count(what), model.count(what));
    }

    private void askRule(int rule, int what) {
        CHECK.is("rule(" + rule + ", " + what + ")", x.rule(rule, what), model.rule(rule, what));
    }

    private void askMember(int member, int what) {
        CHECK.is("member(" + member + ", " + what + ")", x.member(member, what), model.member(member, what));
    }

    private void askAllowed(int craft, int deed, int rank, int way) {
        String call = "allowed(" + craft + ", " + deed + ", " + rank + ", " + way + ")";
        CHECK.is(call, x.allowed(craft, deed, rank, way), model.allowed(craft, deed, rank, way));
    }

    private void askWhy(int craft, int deed, int rank) {
        CHECK.is("why(" + craft + ", " + deed + ", " + rank + ")", x.why(craft, deed, rank), model.why(craft, deed, rank));
    }

    private void askBestWaiver(int seal) {
        CHECK.is("bestWaiver(" + seal + ")", x.bestWaiver(seal), model.bestWaiver(seal));
    }

    private void build(int sort) {
        int rule = near(0, Math.max(0, model.count(0) - 1));
        int dice = upTo(20);
        if (dice < 12 - 2 * (sort / 2)) {
            int kind = upTo(30) == 0 ? near(0, 2) : sort == 0 ? upTo(3) : 1 + upTo(2);
            int layer = kind == 0 && upTo(8) != 0 ? 0 : near(0, 4);
            int craft = upTo(3) == 0 ? 5 : near(0, 5);
            int deed = upTo(3) == 0 ? 6 : near(0, 6);
            int seal = near(1, 9);
            String call = "add(" + layer + ", " + kind + ", " + craft + ", " + deed + ", " + seal + ")";
            CHECK.is(call, x.add(layer, kind, craft, deed, seal), model.add(layer, kind, craft, deed, seal));
        } else if (dice < 15) {
            CHECK.is("strike(" + rule + ")", x.strike(rule), model.strike(rule));
        } else if (dice < 17) {
            int seal = near(1, 9);
            CHECK.is("seal(" + rule + ", " + seal + ")", x.seal(rule, seal), model.seal(rule, seal));
        } else if (dice < 19 || upTo(3) != 0) {
            int layer = near(0, 4);
            CHECK.is("move(" + rule + ", " + layer + ")", x.move(rule, layer), model.move(rule, layer));
        } else {
            CHECK.is("tidy()", x.tidy(), model.tidy());
        }
    }

    private void guild() {
        int member = near(0, Math.max(0, model.count(7) - 1));
        int rank = near(0, 9);
        int dice = upTo(20);
        if (dice < 5) {
            int craft = near(0, 4);
            CHECK.is("join(" + craft + ", " + rank + ")", x.join(craft, rank), model.join(craft, rank));
        } else if (dice < 7) {
            CHECK.is("leave(" + member + ")", x.leave(member), model.leave(member));
        } else if (dice < 10) {
            CHECK.is("rank(" + member + ", " + rank + ")", x.rank(member, rank), model.rank(member, rank));
        } else {
            int deed = near(0, 5);
            CHECK.is("act(" + member + ", " + deed + ")", x.act(member, deed), model.act(member, deed));
        }
    }

    private void ask() {
        int craft = near(0, 4);
        int deed = near(0, 5);
        int rank = near(0, 9);
        int rule = near(0, Math.max(0, model.count(0) - 1));
        switch (upTo(9)) {
            case 0: askRule(rule, near(0, 7)); break;
            case 1: askMember(near(0, Math.max(0, model.count(7) - 1)), near(0, 4)); break;
            case 2: askAllowed(craft, deed, rank, near(0, 1)); break;
            case 3: askWhy(craft, deed, rank); break;
            case 4: askCount(near(0, 16)); break;
            case 5: CHECK.is("leastRank(" + craft + ", " + deed + ")", x.leastRank(craft, deed), model.leastRank(craft, deed)); break;
            case 6: CHECK.is("ifStruck(" + rule + ")", x.ifStruck(rule), model.ifStruck(rule)); break;
            case 7: CHECK.is("worstBan()", x.worstBan(), model.worstBan()); break;
            default: askBestWaiver(near(1, 9));
        }
    }

    private void text() {
        int dice = upTo(10);
        if (dice < 5) {
            long characters = Check.packed(signs(model.count(15) == 0));
            if (upTo(12) == 0) characters ^= 1L << upTo(64);
            CHECK.is("put(" + characters + ")", x.put(characters), model.put(characters));
        } else if (dice < 6) {
            CHECK.is("wipe()", x.wipe(), model.wipe());
        } else if (dice < 8) {
            CHECK.is("fault()", x.fault(), model.fault());
        } else {
            CHECK.is("read()", x.read(), model.read());
        }
    }

    /** One rule, with a semicolon before it unless it is the first; at times with a sign that is any. */
    private String signs(boolean first) {
        int kind = upTo(3);
        StringBuilder signs = new StringBuilder(first ? "" : ";");
        signs.append(kind == 0 ? 0 : upTo(5)).append("pbw".charAt(kind));
        signs.append("01234*".charAt(upTo(6))).append("012345*".charAt(upTo(7)));
        if (kind != 0) signs.append(1 + upTo(9));
        if (upTo(6) == 0) signs.setCharAt(upTo(signs.length()), SIGNS.charAt(upTo(SIGNS.length())));
        if (upTo(20) == 0) signs.setLength(1 + upTo(signs.length()));
        return signs.toString();
    }

    private void keep() {
        int slot = near(0, 1);
        int dice = upTo(10);
        if (dice < 6) CHECK.is("undo()", x.undo(), model.undo());
        else if (dice < 8) CHECK.is("save(" + slot + ")", x.save(slot), model.save(slot));
        else CHECK.is("restore(" + slot + ")", x.restore(slot), model.restore(slot));
    }
}
