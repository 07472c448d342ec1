/** Promise 26: restore. */
public final class Promise26Test extends Promise {
    private static final String RESTORES = "Restores what was saved last in a slot, which keeps it.";
    private static final String NO_SLOT = "BAD_VALUE if there is no such slot";
    private static final String NOTHING_SAVED = "NOT_POSSIBLE if nothing was saved in it.";

    public static void main(String[] args) throws ReflectiveOperationException {
        run(Promise26Test.class);
    }

    private static LayeredCharters savedIn(int slot) {
        LayeredCharters x = charter("0p**;1b**5");
        x.join(0, 4);
        x.save(slot);
        x.act(0, 0);
        return x;
    }

    @Sentence("Restores what was saved last in a slot")
    static void whatWasSavedLast() {
        LayeredCharters x = busy();
        x.save(0);
        x.strike(0);
        x.leave(0);
        x.save(0);
        String saved = state(x);
        x.strike(0);
        x.act(0, 0);
        is(x.restore(0), 3);
        same(state(x), saved);
    }

    @Sentence("which keeps it")
    static void asOftenAsOneLikes() {
        LayeredCharters x = savedIn(1);
        for (int i = 0; i < 10; i++) {
            x.strike(i % 2);
            x.leave(0);
            is(x.restore(1), 2);
            same(fields(x, 0), "0 0 5 6 1");
            same(fields(x, 1), "1 1 5 6 5");
            same(told(x, 0), "0 4 0 0");
        }
    }

    @Sentence("which keeps it")
    static void changesAfterItDoNotReachTheSlot() {
        LayeredCharters x = savedIn(0);
        x.restore(0);
        x.seal(1, 9);
        x.move(1, 4);
        x.rank(0, 9);
        x.act(0, 0);
        is(x.restore(0), 2);
        same(fields(x, 1), "1 1 5 6 5");
        same(told(x, 0), "0 4 0 0");
        is(x.count(8), 0);
    }

    @Sentence(RESTORES)
    static void fromMoreRulesToFewer() {
        LayeredCharters x = charter("4b129");
        x.save(0);
        for (int i = 0; i < 23; i++) x.add(0, 0, 5, 6, 1);
        for (int i = 0; i < 10; i++) x.join(0, 0);
        x.act(9, 0);
        x.act(9, 0);
        is(x.restore(0), 1);
        is(x.count(7), 0);
        is(x.count(8), 0);
        is(x.rule(1, 0), NO_SUCH);
        is(x.count(6), 0);
        is(x.join(3, 3), 0);
        same(told(x, 0), "3 3 0 0");
    }

    @Sentence(RESTORES)
    static void thePadStays() {
        LayeredCharters x = savedIn(0);
        write(x, "4w459;");
        x.restore(0);
        is(x.count(15), 6);
        is(x.fault(), 6);
    }

    @Sentence(RESTORES)
    static void theHistoryGoesOn() {
        LayeredCharters x = savedIn(0);
        is(x.count(16), 4);
        is(x.restore(0), 2);
        is(x.count(16), 5);
        is(x.undo(), 4);
        is(x.count(14) + x.count(10), 1);
        is(x.undo(), 3);
        is(x.undo(), 2);
        is(x.count(7), 0);
    }

    @Sentence("`slot`: 0 or 1")
    static void eachSlot() {
        for (int slot = 0; slot <= 1; slot++) {
            LayeredCharters x = savedIn(slot);
            x.strike(0);
            is(x.restore(slot), 2);
            is(x.restore(1 - slot), NOT_POSSIBLE);
        }
    }

    @Sentence("Returns how many rules there are then")
    static void from0To24() {
        LayeredCharters x = new LayeredCharters();
        x.save(0);
        for (int i = 0; i < 24; i++) x.add(0, 0, 0, 0, 1);
        x.save(1);
        is(x.restore(0), 0);
        is(x.restore(1), 24);
        is(x.count(0), 24);
        is(x.restore(0), 0);
        is(x.count(0), 0);
    }

    @Sentence(NO_SLOT)
    static void slotTooSmall() {
        for (int slot : below(0)) refuses(Promise::busy, x -> x.restore(slot), BAD_VALUE);
    }

    @Sentence(NO_SLOT)
    static void slotTooLarge() {
        for (int slot : above(1)) refuses(Promise::busy, x -> x.restore(slot), BAD_VALUE);
    }

    @Sentence(NOTHING_SAVED)
    static void nothingSavedAtAll() {
        refuses(Promise::full, x -> x.restore(0), NOT_POSSIBLE);
        refuses(Promise::full, x -> x.restore(1), NOT_POSSIBLE);
        refuses(Promise::empty, x -> x.restore(1), NOT_POSSIBLE);
    }

    @Sentence(NOTHING_SAVED)
    static void savedInTheOtherAlone() {
        refuses(() -> savedIn(0), x -> x.restore(1), NOT_POSSIBLE);
        refuses(() -> savedIn(1), x -> x.restore(0), NOT_POSSIBLE);
    }

    @Sentence(NOTHING)
    static void aSaveThatFailedIsNone() {
        LayeredCharters x = charter("0p**");
        x.save(2);
        x.save(-1);
        is(x.restore(0), NOT_POSSIBLE);
        is(x.restore(1), NOT_POSSIBLE);
    }

    @Sentence(ORDER)
    static void badValueAheadOfNotPossible() {
        refuses(Promise::empty, x -> x.restore(2), BAD_VALUE);
        refuses(Promise::empty, x -> x.restore(-1), BAD_VALUE);
    }

    @Sentence(CHANGE)
    static void isRecorded() {
        isAChange(Promise::busy, x -> x.restore(0));
        isAChange(Promise::busy, x -> x.restore(1));
        isAChange(() -> savedIn(0), x -> x.restore(0));
    }

    @Sentence(CHANGE)
    static void isRecordedWhenNothingIsDifferent() {
        isAChange(Promise26Test::savedNew, x -> x.restore(0));
    }

    private static LayeredCharters savedNew() {
        LayeredCharters x = new LayeredCharters();
        x.save(0);
        return x;
    }
}
