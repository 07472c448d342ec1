import java.util.function.Supplier;
import java.util.function.ToIntFunction;

/** Promise 24: undo. */
public final class Promise24Test extends Promise {
    private static final String AS_IT_WAS = "everything except the pad, the slots and the history is as it was before it.";
    private static final String AT_MOST_6 = "A history of at most 6 states is kept";
    private static final String OLDEST = "when one more is recorded, the oldest one is dropped.";
    private static final String SAME_TOO = "records the state before it (also if nothing is different then)";
    private static final String ANSWER = "Returns how many changes can be undone then";

    public static void main(String[] args) throws ReflectiveOperationException {
        run(Promise24Test.class);
    }

    private static LayeredCharters added(int rules) {
        LayeredCharters x = new LayeredCharters();
        for (int i = 0; i < rules; i++) x.add(0, 1, 0, 0, 1 + i % 9);
        return x;
    }

    @Sentence("Undoes the latest change")
    static void theLatestFirst() {
        LayeredCharters x = charter("0p**");
        x.add(1, 1, 0, 0, 5);
        x.seal(1, 7);
        x.move(1, 4);
        is(x.undo(), 3);
        same(fields(x, 1), "1 1 0 0 7");
        is(x.undo(), 2);
        same(fields(x, 1), "1 1 0 0 5");
        is(x.undo(), 1);
        is(x.count(0), 1);
        is(x.undo(), 0);
        is(x.count(0), 0);
    }

    @Sentence(AS_IT_WAS)
    static void eachChange() {
        isAChange(Promise::busy, x -> x.add(4, 1, 3, 3, 3));
        isAChange(Promise::busy, x -> x.strike(0));
        isAChange(Promise::busy, x -> x.seal(1, 9));
        isAChange(Promise::busy, x -> x.move(1, 3));
        isAChange(Promise::busy, LayeredCharters::read);
        isAChange(Promise::busy, LayeredCharters::tidy);
        isAChange(Promise::busy, x -> x.join(3, 3));
        isAChange(Promise::busy, x -> x.leave(0));
        isAChange(Promise::busy, x -> x.rank(0, 9));
        isAChange(Promise::busy, x -> x.act(1, 4));
        isAChange(Promise::busy, x -> x.act(0, 1));
        isAChange(Promise::busy, x -> x.restore(0));
        isAChange(Promise::busy, x -> x.restore(1));
    }

    @Sentence(AS_IT_WAS)
    static void rulesUpTo24() {
        LayeredCharters x = full();
        x.strike(23);
        x.tidy();
        x.add(0, 1, 0, 0, 1);
        for (int left = 5; left >= 3; left--) is(x.undo(), left);
        same(state(x), state(full()));
    }

    @Sentence(AS_IT_WAS)
    static void membersUpTo10() {
        LayeredCharters x = ten();
        x.act(9, 0);
        x.act(9, 1);
        x.leave(0);
        x.rank(8, 0);
        for (int left = 5; left >= 2; left--) is(x.undo(), left);
        same(state(x), state(ten()));
    }

    @Sentence(AS_IT_WAS)
    static void countsOfDeedsAndRefusals() {
        LayeredCharters x = charter("0p**;0b*09;1b*19;2b*29;3b*39;4b*49");
        x.join(0, 8);
        x.strike(0);
        x.undo();
        for (int deed = 0; deed <= 5; deed++) {
            x.act(0, deed);
            is(x.undo(), 5);
            for (int what = 8; what <= 14; what++) is(x.count(what), 0);
            is(x.member(0, 3), 0);
            is(x.member(0, 4), 0);
            x.tidy();
        }
    }

    @Sentence(AS_IT_WAS)
    static void thePadStays() {
        LayeredCharters x = charter("0p**");
        write(x, "1b**5;2w**6");
        x.undo();
        is(x.count(15), 11);
        is(x.read(), 2);
        is(x.undo(), 0);
        is(x.count(0), 0);
        is(x.count(15), 0);
    }

    @Sentence(AS_IT_WAS)
    static void theSlotsStay() {
        LayeredCharters x = charter("0p**");
        x.save(0);
        x.add(1, 1, 5, 6, 5);
        x.save(1);
        x.undo();
        x.undo();
        is(x.restore(1), 2);
        same(fields(x, 1), "1 1 5 6 5");
        is(x.restore(0), 1);
    }

    @Sentence(AS_IT_WAS)
    static void theHistoryLosesOneState() {
        LayeredCharters x = added(3);
        is(x.undo(), 2);
        is(x.count(16), 2);
        is(x.undo(), 1);
        is(x.count(16), 1);
        x.tidy();
        is(x.count(16), 2);
    }

    @Sentence(AT_MOST_6)
    static void from0To6() {
        for (int changes = 0; changes <= 20; changes++) {
            LayeredCharters x = added(changes);
            int kept = Math.min(changes, 6);
            is(x.count(16), kept);
            for (int left = kept - 1; left >= 0; left--) is(x.undo(), left);
            is(x.undo(), NOT_POSSIBLE);
            is(x.count(0), changes - kept);
        }
    }

    @Sentence(OLDEST)
    static void theSeventhDropsTheFirst() {
        LayeredCharters x = added(7);
        for (int i = 6; i >= 1; i--) {
            is(x.undo(), i - 1);
            is(x.count(0), i);
        }
        is(x.undo(), NOT_POSSIBLE);
        is(x.count(0), 1);
        is(x.rule(0, 4), 1);
    }

    @Sentence(OLDEST)
    static void roomAgainAfterUndo() {
        LayeredCharters x = added(8);
        for (int i = 0; i < 3; i++) x.undo();
        is(x.count(0), 5);
        for (int i = 0; i < 3; i++) {
            x.add(4, 2, 4, 5, 9);
            is(x.count(16), 4 + i);
        }
        for (int rules = 7; rules >= 2; rules--) {
            x.undo();
            is(x.count(0), rules);
        }
        is(x.undo(), NOT_POSSIBLE);
        is(x.rule(1, 4), 2);
    }

    @Sentence(SAME_TOO)
    static void changesThatChangeNothing() {
        LayeredCharters x = charter("0p**;1b**5");
        x.tidy();
        is(x.count(16), 3);
        x.seal(1, 5);
        is(x.count(16), 4);
        x.move(1, 1);
        is(x.count(16), 5);
        x.save(0);
        x.restore(0);
        is(x.count(16), 6);
        for (int left = 5; left >= 2; left--) {
            is(x.undo(), left);
            is(x.count(0), 2);
        }
        is(x.undo(), 1);
        is(x.count(0), 1);
    }

    @Sentence(SAME_TOO)
    static void theSameRank() {
        LayeredCharters x = new LayeredCharters();
        x.join(0, 5);
        x.rank(0, 5);
        is(x.count(16), 2);
        is(x.undo(), 1);
        is(x.count(7), 1);
    }

    @Sentence(RECORDS)
    static void whatIsNoChangeRecordsNothing() {
        Supplier<LayeredCharters> make = () -> charter("0p**;1b**5");
        recordsNothing(make, x -> x.save(0));
        recordsNothing(make, x -> x.put('0'));
        recordsNothing(make, LayeredCharters::wipe);
        recordsNothing(make, LayeredCharters::fault);
        recordsNothing(make, x -> x.rule(0, 5));
        recordsNothing(make, x -> x.count(4));
        recordsNothing(make, x -> x.allowed(0, 0, 0, 0));
        recordsNothing(make, x -> x.why(0, 0, 0));
        recordsNothing(make, x -> x.leastRank(0, 0));
        recordsNothing(make, x -> x.ifStruck(0));
        recordsNothing(make, LayeredCharters::worstBan);
        recordsNothing(make, x -> x.bestWaiver(9));
    }

    private static void recordsNothing(Supplier<LayeredCharters> make, ToIntFunction<LayeredCharters> call) {
        LayeredCharters x = make.get();
        call.applyAsInt(x);
        is(x.count(16), 2);
        is(x.undo(), 1);
        is(x.count(0), 1);
    }

    @Sentence(NOTHING)
    static void anErrorRecordsNothing() {
        Supplier<LayeredCharters> make = () -> charter("0p**;1b**5");
        recordsNothing(make, x -> x.add(1, 0, 0, 0, 1));
        recordsNothing(make, x -> x.strike(2));
        recordsNothing(make, x -> x.seal(0, 0));
        recordsNothing(make, x -> x.move(0, 1));
        recordsNothing(make, LayeredCharters::read);
        recordsNothing(make, x -> x.join(5, 0));
        recordsNothing(make, x -> x.leave(0));
        recordsNothing(make, x -> x.rank(0, 0));
        recordsNothing(make, x -> x.act(0, 0));
        recordsNothing(make, x -> x.restore(0));
        recordsNothing(make, x -> x.restore(2));
    }

    @Sentence("NOT_POSSIBLE if there is none.")
    static void nothingToUndo() {
        refuses(Promise::empty, LayeredCharters::undo, NOT_POSSIBLE);
        refuses(Promise24Test::allUndone, LayeredCharters::undo, NOT_POSSIBLE);
    }

    private static LayeredCharters allUndone() {
        LayeredCharters x = busy();
        for (int i = 0; i < 6; i++) x.undo();
        return x;
    }

    @Sentence(ANSWER)
    static void undoIsNoChangeItself() {
        LayeredCharters x = added(2);
        is(x.undo(), 1);
        is(x.undo(), 0);
        is(x.undo(), NOT_POSSIBLE);
        is(x.count(0), 0);
    }

    @Sentence(ANSWER)
    static void from5DownTo0() {
        LayeredCharters x = added(6);
        for (int left = 5; left >= 0; left--) is(x.undo(), left);
        is(x.count(0), 0);
    }
}
