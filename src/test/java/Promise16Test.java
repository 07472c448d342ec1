/** Promise 16: count. */
public final class Promise16Test extends Promise {
    private static final String IN_RANGE = "BAD_VALUE if what is out of range.";

    public static void main(String[] args) throws ReflectiveOperationException {
        run(Promise16Test.class);
    }

    private static LayeredCharters twelveAndTwelve() {
        LayeredCharters x = new LayeredCharters();
        for (int i = 0; i < 24; i++) x.add(i % 2 * 4, i % 2, 5, 6, 9);
        return x;
    }

    @Sentence("Returns a number.")
    static void noneAtFirst() {
        for (int what = 0; what <= 16; what++) is(new LayeredCharters().count(what), 0);
    }

    @Sentence("Returns the number")
    static void allOfOneGuild() {
        LayeredCharters x = charter("0p0*;0p1*;1b0*9;2b1*9;3b*09;0w*04");
        for (int i = 0; i < 3; i++) x.join(i, 8);
        x.act(0, 0);
        x.act(1, 1);
        x.act(1, 1);
        for (int i = 0; i < 3; i++) x.act(2, 2);
        x.rank(0, 9);
        x.act(0, 0);
        x.leave(0);
        write(x, "0p**;12");
        int[] want = {6, 2, 3, 1, 2, 7, 12, 2, 1, 0, 1, 2, 0, 0, 3, 7, 6};
        for (int what = 0; what < want.length; what++) is(x.count(what), want[what]);
    }

    @Sentence("0 rules, 1 to 3 those of the kinds 0 to 2")
    static void rulesUpTo24() {
        for (int kind = 0; kind <= 2; kind++) {
            LayeredCharters x = new LayeredCharters();
            for (int i = 1; i <= 24; i++) {
                x.add(0, kind, 5, 6, 1);
                is(x.count(0), i);
            }
            for (int other = 0; other <= 2; other++) is(x.count(1 + other), other == kind ? 24 : 0);
        }
    }

    @Sentence("0 rules, 1 to 3 those of the kinds 0 to 2")
    static void rulesOfEachKind() {
        LayeredCharters x = charter("0w**1;0p**;0b**1;0b**2;0w**2;0w**3");
        is(x.count(0), 6);
        is(x.count(1), 1);
        is(x.count(2), 2);
        is(x.count(3), 3);
    }

    @Sentence("4 idle ones")
    static void idleFrom0To24() {
        is(charter("0p**;0b**5").count(4), 0);
        is(charter("0p**;0b**5;0b**4").count(4), 1);
        is(twelveAndTwelve().count(4), 24);
        LayeredCharters x = new LayeredCharters();
        for (int i = 0; i < 24; i++) x.add(0, 0, i / 6, i % 6, 1);
        is(x.count(4), 0);
    }

    @Sentence("5 pairs of rules at odds")
    static void oddsFrom0To144() {
        is(charter("0p**").count(5), 0);
        is(charter("0b**1").count(5), 0);
        is(charter("0p**;0b**1").count(5), 1);
        is(charter("0b**1;0w**1;0p**").count(5), 2);
        is(twelveAndTwelve().count(5), 144);
    }

    @Sentence("6 triples of a craft, a deed and a rank that are allowed")
    static void triplesFrom0To300() {
        is(charter("0b**1").count(6), 0);
        is(charter("0p00;0b009").count(6), 1);
        is(charter("0p45").count(6), 10);
        is(charter("0p4*").count(6), 60);
        is(charter("0p*5").count(6), 50);
        is(charter("0p**").count(6), 300);
    }

    @Sentence("6 triples of a craft, a deed and a rank that are allowed")
    static void triplesForEachSeal() {
        for (int seal = 1; seal <= 9; seal++) {
            is(charter("0p**;4b**" + seal).count(6), 300 - 30 * seal);
            is(charter("0p**;0b45" + seal).count(6), 300 - seal);
            is(charter("0p**;0b**9;0w00" + seal).count(6), seal == 9 ? 39 : 30);
        }
    }

    @Sentence("7 members")
    static void membersFrom0To10() {
        LayeredCharters x = new LayeredCharters();
        for (int i = 1; i <= 10; i++) {
            x.join(0, 0);
            is(x.count(7), i);
        }
        x.join(0, 0);
        is(x.count(7), 10);
        for (int i = 9; i >= 0; i--) {
            x.leave(0);
            is(x.count(7), i);
        }
    }

    @Sentence("8 deeds done so far (also by members who left)")
    static void deedsOfThoseWhoLeft() {
        LayeredCharters x = charter("0p0*");
        x.join(0, 0);
        x.act(0, 5);
        x.act(0, 5);
        x.leave(0);
        is(x.count(8), 2);
        x.join(0, 0);
        x.act(0, 0);
        is(x.count(8), 3);
        x.join(1, 0);
        x.act(1, 0);
        is(x.count(8), 3);
    }

    @Sentence("9 to 13 refusals so far by bans of the layers 0 to 4")
    static void refusalsOfEachLayer() {
        LayeredCharters x = charter("0p**;0b*09;1b*19;2b*29;3b*39;4b*49");
        x.join(0, 8);
        for (int deed = 0; deed <= 4; deed++) {
            for (int times = 0; times <= deed; times++) x.act(0, deed);
        }
        for (int layer = 0; layer <= 4; layer++) is(x.count(9 + layer), layer + 1);
        is(x.count(8), 0);
        is(x.count(14), 0);
        x.leave(0);
        for (int layer = 0; layer <= 4; layer++) is(x.count(9 + layer), layer + 1);
    }

    @Sentence("14 refusals so far for lack of a permit")
    static void refusalsForLackOfAPermit() {
        LayeredCharters x = charter("0p0*;4b**9");
        x.join(1, 0);
        x.act(0, 0);
        x.act(0, 5);
        is(x.count(14), 2);
        for (int what = 8; what <= 13; what++) is(x.count(what), 0);
        x.leave(0);
        is(x.count(14), 2);
    }

    @Sentence("15 the length of the pad")
    static void padFrom0To60() {
        LayeredCharters x = new LayeredCharters();
        is(x.count(15), 0);
        for (int i = 1; i <= 60; i++) {
            x.put('!');
            is(x.count(15), i);
        }
        x.put('!');
        is(x.count(15), 60);
        x.wipe();
        is(x.count(15), 0);
    }

    @Sentence("16 how many changes can be undone")
    static void changesFrom0To6() {
        LayeredCharters x = new LayeredCharters();
        for (int i = 1; i <= 14; i++) {
            x.tidy();
            is(x.count(16), Math.min(i, 6));
        }
        for (int i = 5; i >= 0; i--) {
            x.undo();
            is(x.count(16), i);
        }
        x.undo();
        is(x.count(16), 0);
    }

    @Sentence(IN_RANGE)
    static void whatTooSmall() {
        for (int what : below(0)) refuses(Promise::busy, x -> x.count(what), BAD_VALUE);
    }

    @Sentence(IN_RANGE)
    static void whatTooLarge() {
        for (int what : above(16)) refuses(Promise::busy, x -> x.count(what), BAD_VALUE);
    }

    @Sentence("Returns a number.")
    static void changesNothing() {
        for (int what = 0; what <= 16; what++) {
            int which = what;
            leavesAlone(Promise::busy, x -> x.count(which));
        }
    }
}
