/** Promise 22: wipe. */
public final class Promise22Test extends Promise {
    private static final String WIPE = "Empties the pad, and returns the length that it had.";

    public static void main(String[] args) throws ReflectiveOperationException {
        run(Promise22Test.class);
    }

    @Sentence(WIPE)
    static void emptyPad() {
        LayeredCharters x = new LayeredCharters();
        is(x.wipe(), 0);
        is(x.wipe(), 0);
        is(x.count(15), 0);
    }

    @Sentence(WIPE)
    static void everyLengthUpTo60() {
        for (int length = 1; length <= 60; length++) {
            LayeredCharters x = new LayeredCharters();
            for (int i = 0; i < length; i++) x.put('!');
            is(x.wipe(), length);
            is(x.count(15), 0);
            is(x.fault(), 0);
            is(x.wipe(), 0);
        }
    }

    @Sentence(WIPE)
    static void nothingOfTheTextIsLeft() {
        LayeredCharters x = padOf("0p**;1b**5");
        x.wipe();
        is(x.read(), BAD_TEXT);
        is(x.put('3'), 1);
        is(x.fault(), 1);
        write(x, "w129");
        is(x.read(), 1);
        same(fields(x, 0), "3 2 1 2 9");
    }

    @Sentence(WIPE)
    static void afterRead() {
        LayeredCharters x = padOf("0p**");
        x.read();
        is(x.wipe(), 0);
        is(x.count(0), 1);
    }

    @Sentence(RECORDS)
    static void isNoChange() {
        LayeredCharters x = busy();
        String before = state(x);
        is(x.wipe(), 10);
        same(state(x), before);
        is(x.count(16), 6);
        LayeredCharters y = charter("0p**");
        y.put('0');
        y.wipe();
        is(y.count(16), 1);
        is(y.undo(), 0);
        is(y.count(15), 0);
        is(y.count(0), 0);
    }
}
