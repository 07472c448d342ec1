/** Promises 24 to 26: undo, save and restore. */
public final class UndoTest {
    private static final Check CHECK = new Check("UndoTest");

    public static void main(String[] args) {
        everyChange();
        noChange();
        history();
        errorsRecordNothing();
        undoLeaves();
        save();
        saveWrong();
        restore();
        restoreIsAChange();
        slotsOutliveUndo();
        CHECK.end();
    }

    private static LayeredCharters busy() {
        LayeredCharters x = Check.charterOf("0p**;1b0*5;2w**9;3b007");
        x.join(0, 4);
        x.join(1, 9);
        x.act(0, 0);
        x.act(1, 0);
        Check.write(x, "4b121");
        return x;
    }

    private static int change(LayeredCharters x, int which) {
        switch (which) {
            case 0: return x.add(4, 1, 3, 3, 3);
            case 1: return x.strike(1);
            case 2: return x.seal(1, 9);
            case 3: return x.move(1, 3);
            case 4: return x.read();
            case 5: return x.tidy();
            case 6: return x.join(3, 3);
            case 7: return x.leave(0);
            case 8: return x.rank(0, 9);
            case 9: return x.act(1, 1);
            case 10: return x.act(0, 1);
            default: return x.restore(0);
        }
    }

    /** Without the lengths of the pad and of the history, and the fault. */
    private static String state(LayeredCharters x) {
        String view = Check.view(x);
        int padAt = 0;
        for (int i = 0; i < 15; i++) padAt = view.indexOf(' ', padAt) + 1;
        int restAt = padAt;
        for (int i = 0; i < 2; i++) restAt = view.indexOf(' ', restAt) + 1;
        return view.substring(0, padAt) + view.substring(restAt, view.lastIndexOf(' '));
    }

    private static void everyChange() {
        CHECK.part("promise 24, each change");
        for (int which = 0; which <= 11; which++) {
            LayeredCharters x = busy();
            x.save(0);
            x.strike(3);
            String before = state(x);
            CHECK.is("change " + which + " is none that fails", change(x, which) >= 0 || which == 9 ? 1 : 0, 1);
            CHECK.is("the state differs after change " + which, state(x).equals(before) ? 1 : 0, 0);
            CHECK.is("undo() of change " + which, x.undo(), 5);
            CHECK.isText("state after the undo of change " + which, state(x), before);
        }
    }

    private static void noChange() {
        CHECK.part("promise 24, changes that change nothing");
        LayeredCharters x = new LayeredCharters();
        CHECK.is("tidy()", x.tidy(), 0);
        CHECK.is("count(16)", x.count(16), 1);
        x = Check.charterOf("0p**;1b**5");
        CHECK.is("seal(1, 5)", x.seal(1, 5), 5);
        CHECK.is("count(16)", x.count(16), 3);
        CHECK.is("move(1, 1)", x.move(1, 1), 1);
        CHECK.is("count(16)", x.count(16), 4);
        x.join(0, 0);
        CHECK.is("rank(0, 0)", x.rank(0, 0), 0);
        CHECK.is("count(16)", x.count(16), 6);
        for (int left = 5; left >= 0; left--) CHECK.is("undo()", x.undo(), left);
        CHECK.is("undo()", x.undo(), Check.NOT_POSSIBLE);
        CHECK.is("count(0)", x.count(0), 0);
        CHECK.is("count(7)", x.count(7), 0);
    }

    private static void history() {
        CHECK.part("promise 24, a history of 6");
        for (int changes = 1; changes <= 15; changes++) {
            LayeredCharters x = new LayeredCharters();
            for (int i = 0; i < changes; i++) {
                x.add(0, 0, i % 5, i % 6, 1 + i % 9);
                CHECK.is("count(16)", x.count(16), Math.min(i + 1, 6));
            }
            int kept = Math.min(changes, 6);
            for (int i = 1; i <= kept; i++) {
                CHECK.is("undo()", x.undo(), kept - i);
                CHECK.is("count(0)", x.count(0), changes - i);
            }
            CHECK.refused(x, Check.view(x), "undo() once more", x.undo(), Check.NOT_POSSIBLE);
            CHECK.is("count(0)", x.count(0), changes - kept);
        }
        LayeredCharters x = new LayeredCharters();
        for (int i = 0; i < 8; i++) x.add(1, 1, 0, 0, 1 + i);
        x.undo();
        x.undo();
        x.undo();
        CHECK.is("add, after three undone", x.add(1, 2, 0, 0, 9), 5);
        CHECK.is("count(16)", x.count(16), 4);
        for (int left = 3; left >= 0; left--) CHECK.is("undo()", x.undo(), left);
        CHECK.is("count(0)", x.count(0), 2);
        CHECK.is("rule(1, 4)", x.rule(1, 4), 2);
    }

    private static void errorsRecordNothing() {
        CHECK.part("promise 24, errors and questions");
        LayeredCharters x = Check.charterOf("0p**");
        x.add(5, 0, 0, 0, 1);
        x.strike(1);
        x.seal(1, 1);
        x.move(0, 1);
        x.read();
        x.join(5, 0);
        x.leave(0);
        x.rank(0, 0);
        x.act(0, 0);
        x.restore(0);
        x.restore(2);
        x.put('0');
        x.wipe();
        x.save(0);
        x.rule(0, 5);
        x.why(0, 0, 0);
        x.worstBan();
        x.bestWaiver(9);
        x.ifStruck(0);
        x.fault();
        CHECK.is("count(16)", x.count(16), 1);
        CHECK.is("undo()", x.undo(), 0);
        CHECK.is("count(0)", x.count(0), 0);
    }

    private static void undoLeaves() {
        CHECK.part("promise 24, the pad and the slots");
        LayeredCharters x = Check.charterOf("0p**");
        x.save(0);
        x.add(1, 1, 5, 6, 5);
        x.save(1);
        Check.write(x, "0b**9");
        x.undo();
        CHECK.is("count(15)", x.count(15), 5);
        CHECK.is("read()", x.read(), 2);
        CHECK.is("undo() of read", x.undo(), 1);
        CHECK.is("count(0)", x.count(0), 1);
        CHECK.is("count(15)", x.count(15), 0);
        CHECK.is("restore(1)", x.restore(1), 2);
        CHECK.is("rule(1, 4)", x.rule(1, 4), 5);
        CHECK.is("restore(0)", x.restore(0), 1);
    }

    private static void save() {
        CHECK.part("promise 25");
        LayeredCharters x = new LayeredCharters();
        CHECK.is("save(0) of nothing", x.save(0), 0);
        x = busy();
        String before = Check.view(x);
        CHECK.is("save(1)", x.save(1), 4);
        CHECK.isText("what save left", Check.view(x), before);
        x.strike(0);
        CHECK.is("save(0)", x.save(0), 3);
        x.strike(0);
        CHECK.is("save(0), over what was saved", x.save(0), 2);
        CHECK.is("restore(1)", x.restore(1), 4);
        CHECK.is("restore(0)", x.restore(0), 2);
    }

    private static void saveWrong() {
        CHECK.part("promises 25 and 26, errors");
        LayeredCharters x = Check.charterOf("0p**");
        int[] wrong = {2, -1, Integer.MIN_VALUE, Integer.MAX_VALUE};
        for (int slot : wrong) {
            CHECK.refused(x, Check.view(x), "save(" + slot + ")", x.save(slot), Check.BAD_VALUE);
            CHECK.refused(x, Check.view(x), "restore(" + slot + ")", x.restore(slot), Check.BAD_VALUE);
        }
        CHECK.refused(x, Check.view(x), "restore(0)", x.restore(0), Check.NOT_POSSIBLE);
        CHECK.refused(x, Check.view(x), "restore(1)", x.restore(1), Check.NOT_POSSIBLE);
        x.save(1);
        CHECK.refused(x, Check.view(x), "restore(0)", x.restore(0), Check.NOT_POSSIBLE);
        CHECK.is("restore(1)", x.restore(1), 1);
        x.save(0);
        CHECK.is("restore(0)", x.restore(0), 1);
    }

    private static void restore() {
        CHECK.part("promise 26");
        LayeredCharters x = busy();
        String saved = state(x);
        x.save(1);
        x.act(1, 0);
        x.act(0, 0);
        x.leave(0);
        x.tidy();
        x.rank(0, 1);
        x.add(0, 1, 5, 6, 9);
        Check.write(x, ";0p");
        CHECK.is("restore(1)", x.restore(1), 4);
        CHECK.isText("state", state(x), saved);
        CHECK.is("count(15), as restore leaves the pad", x.count(15), 8);
        x.strike(0);
        x.act(1, 0);
        CHECK.is("restore(1), which keeps it", x.restore(1), 4);
        CHECK.isText("state", state(x), saved);
        LayeredCharters empty = new LayeredCharters();
        empty.save(0);
        empty.add(0, 0, 5, 6, 1);
        CHECK.is("restore(0) of a new object", empty.restore(0), 0);
        CHECK.is("count(0)", empty.count(0), 0);
    }

    private static void restoreIsAChange() {
        CHECK.part("promise 26, a change");
        LayeredCharters x = Check.charterOf("0p**");
        x.save(0);
        CHECK.is("restore(0)", x.restore(0), 1);
        CHECK.is("count(16)", x.count(16), 2);
        x.add(1, 1, 5, 6, 5);
        x.add(2, 1, 5, 6, 6);
        CHECK.is("restore(0)", x.restore(0), 1);
        CHECK.is("count(16)", x.count(16), 5);
        CHECK.is("undo()", x.undo(), 4);
        CHECK.is("count(0)", x.count(0), 3);
        CHECK.is("rule(2, 4)", x.rule(2, 4), 6);
    }

    private static void slotsOutliveUndo() {
        CHECK.part("promise 25, undo does not take a save back");
        LayeredCharters x = Check.charterOf("0p**");
        x.add(1, 1, 0, 0, 5);
        x.save(0);
        x.undo();
        x.undo();
        CHECK.is("count(0)", x.count(0), 0);
        CHECK.is("restore(0)", x.restore(0), 2);
        CHECK.isText("rule 1", Check.five(x, 1), "1 1 0 0 5");
        x.seal(1, 9);
        CHECK.is("restore(0), a change left the slot", x.restore(0), 2);
        CHECK.isText("rule 1", Check.five(x, 1), "1 1 0 0 5");
    }
}
