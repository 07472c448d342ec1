/** Promise 6: read. */
public final class Promise06Test extends Promise {
    private static final String NO_FAULT = "BAD_TEXT if the pad has a fault";
    private static final String AT_MOST_24 = "TOO_MANY if there would be more than 24.";
    private static final String TWELVE = "0p00;0p01;0p02;0p03;0p04;0p05;0p10;0p11;0p12;0p13;0p14;0p15";

    public static void main(String[] args) throws ReflectiveOperationException {
        run(Promise06Test.class);
    }

    private static LayeredCharters rules(int rules, String pad) {
        LayeredCharters x = new LayeredCharters();
        for (int i = 0; i < rules; i++) x.add(i % 5, 1, 0, 0, 1 + i % 9);
        write(x, pad);
        return x;
    }

    @Sentence("Adds the rules of the pad, and empties the pad.")
    static void behindTheOthersInTheirOrder() {
        LayeredCharters x = charter("1b0*5");
        write(x, "0p**;4b059;1w4*1");
        is(x.read(), 4);
        same(fields(x, 0), "1 1 0 6 5");
        same(fields(x, 1), "0 0 5 6 1");
        same(fields(x, 2), "4 1 0 5 9");
        same(fields(x, 3), "1 2 4 6 1");
    }

    @Sentence("Adds the rules of the pad, and empties the pad.")
    static void thePadIsEmptyThen() {
        LayeredCharters x = padOf("0p**");
        is(x.read(), 1);
        is(x.count(15), 0);
        is(x.fault(), 0);
        is(x.read(), BAD_TEXT);
        is(x.wipe(), 0);
    }

    @Sentence("Adds the rules of the pad, and empties the pad.")
    static void theNextTextBeginsAnew() {
        LayeredCharters x = padOf("0p**");
        x.read();
        write(x, "4b059");
        is(x.fault(), NONE);
        is(x.read(), 2);
        same(fields(x, 1), "4 1 0 5 9");
    }

    @Sentence("and a permit must not (it has the seal 1)")
    static void aPermitHasTheSeal1() {
        LayeredCharters x = padOf("0p**;0p00;0b009;0p11");
        is(x.read(), 4);
        is(x.rule(0, 4), 1);
        is(x.rule(1, 4), 1);
        is(x.rule(3, 4), 1);
    }

    @Sentence("Returns how many rules there are then")
    static void ofNoRulesAndOfSome() {
        is(padOf("0p**").read(), 1);
        is(padOf("0p**;0p**").read(), 2);
        is(rules(11, "0p**;0p**").read(), 13);
    }

    @Sentence(NO_FAULT)
    static void emptyPad() {
        refuses(Promise::empty, LayeredCharters::read, BAD_TEXT);
        refuses(Promise::full, LayeredCharters::read, BAD_TEXT);
    }

    @Sentence(NO_FAULT)
    static void faultOfTheFirstCharacter() {
        refuses(() -> padOf("5b**5"), LayeredCharters::read, BAD_TEXT);
        refuses(() -> padOf(";0p**"), LayeredCharters::read, BAD_TEXT);
    }

    @Sentence(NO_FAULT)
    static void faultOfTheLastCharacter() {
        refuses(() -> padOf("0p**;1b**0"), LayeredCharters::read, BAD_TEXT);
        refuses(() -> padOf("0p**5"), LayeredCharters::read, BAD_TEXT);
    }

    @Sentence(NO_FAULT)
    static void textThatEndsTooEarly() {
        for (String text : new String[] {"0", "0b", "0b*", "0b**", "0p", "0p*", "0p**;", "0b**5;", "0p**;1w00"}) {
            refuses(() -> padOf(text), LayeredCharters::read, BAD_TEXT);
        }
    }

    @Sentence(NOTHING)
    static void theTextIsStillThereToBeEnded() {
        LayeredCharters x = padOf("0p**;1b*");
        is(x.read(), BAD_TEXT);
        is(x.count(0), 0);
        is(x.count(15), 8);
        write(x, "35");
        is(x.read(), 2);
        same(fields(x, 1), "1 1 5 3 5");
    }

    @Sentence(AT_MOST_24)
    static void upTo24() {
        is(rules(23, "0p**").read(), 24);
        is(rules(12, TWELVE).read(), 24);
        LayeredCharters x = rules(22, "0p**;3w129");
        is(x.read(), 24);
        same(fields(x, 22), "0 0 5 6 1");
        same(fields(x, 23), "3 2 1 2 9");
    }

    @Sentence(AT_MOST_24)
    static void not25() {
        refuses(() -> rules(24, "0p**"), LayeredCharters::read, TOO_MANY);
        refuses(() -> rules(23, "0p**;1b**5"), LayeredCharters::read, TOO_MANY);
        refuses(() -> rules(13, TWELVE), LayeredCharters::read, TOO_MANY);
    }

    @Sentence(AT_MOST_24)
    static void farMoreThan24() {
        refuses(() -> rules(24, TWELVE), LayeredCharters::read, TOO_MANY);
    }

    @Sentence(NOTHING)
    static void theTextIsStillThereForRoom() {
        LayeredCharters x = rules(24, "0p**;3w129");
        is(x.read(), TOO_MANY);
        x.strike(0);
        is(x.read(), TOO_MANY);
        x.strike(0);
        is(x.count(15), 10);
        is(x.read(), 24);
        same(fields(x, 23), "3 2 1 2 9");
    }

    @Sentence(ORDER)
    static void badTextAheadOfTooMany() {
        refuses(() -> rules(24, "0p**;"), LayeredCharters::read, BAD_TEXT);
        refuses(() -> rules(24, "0p**5"), LayeredCharters::read, BAD_TEXT);
        refuses(() -> rules(24, ""), LayeredCharters::read, BAD_TEXT);
        refuses(() -> rules(23, "0p**;1b**5;1p**"), LayeredCharters::read, BAD_TEXT);
    }

    @Sentence("The pad is a text of at most 60 characters")
    static void allThat60CharactersHold() {
        LayeredCharters x = padOf("0p**;1b011;0p01;2w122;0p12;3b233;0p23;4w344;0p34;0b455;1w*06");
        is(x.count(15), 60);
        is(x.read(), 11);
        same(fields(x, 8), "0 0 3 4 1");
        same(fields(x, 9), "0 1 4 5 5");
        same(fields(x, 10), "1 2 5 0 6");
    }

    @Sentence(CHANGE)
    static void isRecorded() {
        isAChange(Promise::busy, LayeredCharters::read);
        isAChange(() -> padOf("0p**;1b**5"), LayeredCharters::read);
    }

    @Sentence(CHANGE)
    static void isOneChangeForAllItsRules() {
        LayeredCharters x = padOf(TWELVE);
        x.read();
        is(x.count(16), 1);
        is(x.undo(), 0);
        is(x.count(0), 0);
    }
}
