/** Promise 25: save. */
public final class Promise25Test extends Promise {
    private static final String SAVES = "Saves everything except the pad, the history and the slots in a slot";
    private static final String NO_SLOT = "BAD_VALUE if there is no such slot.";

    public static void main(String[] args) throws ReflectiveOperationException {
        run(Promise25Test.class);
    }

    private static LayeredCharters tenOf24() {
        LayeredCharters x = full();
        for (int i = 0; i < 10; i++) x.join(i % 5, 9 - i);
        for (int i = 0; i < 10; i++) x.act(i, i % 6);
        return x;
    }

    @Sentence(SAVES)
    static void rulesMembersAndCounts() {
        LayeredCharters x = tenOf24();
        is(x.save(0), 24);
        for (int i = 0; i < 10; i++) x.leave(0);
        for (int i = 0; i < 24; i++) x.strike(0);
        is(x.restore(0), 24);
        same(state(x), state(tenOf24()));
    }

    @Sentence(SAVES)
    static void notThePad() {
        LayeredCharters x = padOf("0p**");
        x.save(0);
        write(x, ";1b**5");
        x.restore(0);
        is(x.count(15), 10);
        is(x.read(), 2);
        x.restore(0);
        is(x.count(15), 0);
    }

    @Sentence(SAVES)
    static void notTheHistory() {
        LayeredCharters x = charter("0p**;1b**5");
        x.save(0);
        x.undo();
        x.undo();
        is(x.restore(0), 2);
        is(x.count(16), 1);
        is(x.undo(), 0);
        is(x.count(0), 0);
        is(x.undo(), NOT_POSSIBLE);
    }

    @Sentence(SAVES)
    static void notTheSlots() {
        LayeredCharters x = charter("0p**");
        x.save(0);
        x.add(1, 1, 5, 6, 5);
        x.save(1);
        x.add(1, 1, 5, 6, 6);
        x.save(1);
        is(x.restore(0), 1);
        is(x.restore(1), 3);
    }

    @Sentence(SAVES)
    static void laterChangesDoNotReachIt() {
        LayeredCharters x = busy();
        String saved = state(x);
        x.save(1);
        x.seal(0, 9);
        x.move(1, 4);
        x.rank(0, 9);
        x.act(0, 0);
        x.strike(0);
        x.leave(0);
        x.read();
        x.undo();
        x.restore(1);
        same(state(x), saved);
    }

    @Sentence("and overwrites what was saved there")
    static void theLaterOneStands() {
        for (int slot = 0; slot <= 1; slot++) {
            LayeredCharters x = tenOf24();
            x.save(slot);
            for (int i = 0; i < 23; i++) x.strike(0);
            for (int i = 0; i < 9; i++) x.leave(0);
            String saved = state(x);
            is(x.save(slot), 1);
            x.strike(0);
            x.leave(0);
            is(x.restore(slot), 1);
            same(state(x), saved);
            is(x.restore(1 - slot), NOT_POSSIBLE);
        }
    }

    @Sentence("`slot`: 0 or 1")
    static void eachSlotByItself() {
        LayeredCharters x = charter("0p**");
        x.save(1);
        x.add(1, 1, 5, 6, 5);
        x.save(0);
        x.add(2, 1, 5, 6, 6);
        is(x.restore(1), 1);
        is(x.restore(0), 2);
        is(x.restore(1), 1);
    }

    @Sentence("Returns how many rules there are")
    static void from0To24() {
        LayeredCharters x = new LayeredCharters();
        is(x.save(0), 0);
        for (int i = 1; i <= 24; i++) {
            x.add(0, 0, 0, 0, 1);
            is(x.save(i % 2), i);
        }
        is(x.restore(0), 24);
        is(x.restore(1), 23);
    }

    @Sentence(SAVES)
    static void aNewObject() {
        LayeredCharters x = new LayeredCharters();
        is(x.save(1), 0);
        x.add(0, 0, 5, 6, 1);
        x.join(0, 0);
        is(x.restore(1), 0);
        same(state(x), state(new LayeredCharters()));
    }

    @Sentence(NO_SLOT)
    static void slotTooSmall() {
        for (int slot : below(0)) refuses(Promise::busy, x -> x.save(slot), BAD_VALUE);
    }

    @Sentence(NO_SLOT)
    static void slotTooLarge() {
        for (int slot : above(1)) refuses(Promise::busy, x -> x.save(slot), BAD_VALUE);
    }

    @Sentence(RECORDS)
    static void isNoChange() {
        LayeredCharters x = charter("0p**");
        String before = all(x);
        x.save(0);
        x.save(1);
        same(all(x), before);
        is(x.undo(), 0);
        is(x.undo(), NOT_POSSIBLE);
    }

    @Sentence("everything except the pad, the slots and the history is as it was before it.")
    static void undoDoesNotTakeItBack() {
        LayeredCharters x = charter("0p**");
        x.save(0);
        x.undo();
        is(x.count(0), 0);
        is(x.restore(0), 1);
    }
}
