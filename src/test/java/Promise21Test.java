/** Promise 21: put. */
public final class Promise21Test extends Promise {
    private static final String ONE_TO_8 = "`characters`: 1 to 8 characters";
    private static final String BITS = "They are given as a number: its lowest 8 bits are the last character, "
        + "the next 8 bits the one before, and so on";
    private static final String CODES = "a code is not 33 to 126";
    private static final String NO_MORE = "8 bits that are 0 mean that there are no more characters, "
        + "and everything above them has to be 0, too.";
    private static final String AT_MOST_60 = "TOO_MANY if the pad would be longer than 60.";

    public static void main(String[] args) throws ReflectiveOperationException {
        run(Promise21Test.class);
    }

    private static void badOnAll(long characters) {
        refuses(Promise::busy, x -> x.put(characters), BAD_VALUE);
    }

    private static LayeredCharters padOfLength(int length) {
        LayeredCharters x = busy();
        while (x.count(15) < length) x.put('!');
        return x;
    }

    private static long with(int code, int place) {
        return packed("00000000") & ~(255L << 8 * place) | (long) code << 8 * place;
    }

    @Sentence("Appends characters to the pad.")
    static void behindThoseThatAreThere() {
        LayeredCharters x = new LayeredCharters();
        is(x.put('0'), 1);
        is(x.put(packed("p*")), 3);
        is(x.put(packed("3;4b1*7;")), 11);
        is(x.put(packed("1w2")), 14);
        is(x.put(packed("08")), 16);
        is(x.read(), 3);
        same(fields(x, 0), "0 0 5 3 1");
        same(fields(x, 1), "4 1 1 6 7");
        same(fields(x, 2), "1 2 2 0 8");
    }

    @Sentence(BITS)
    static void theLowestBitsAreTheLast() {
        LayeredCharters x = new LayeredCharters();
        is(x.put('0' << 24 | 'b' << 16 | '3' << 8 | '4'), 4);
        is(x.put('7'), 5);
        is(x.read(), 1);
        same(fields(x, 0), "0 1 3 4 7");
    }

    @Sentence(ONE_TO_8)
    static void from1To8() {
        for (int length = 1; length <= 8; length++) {
            is(new LayeredCharters().put(packed("~!~!~!~!".substring(0, length))), length);
            is(padOf("0000").put(packed("!~!~!~!~".substring(0, length))), 4 + length);
        }
    }

    @Sentence("BAD_VALUE if there is no character")
    static void noCharacter() {
        badOnAll(0);
        refuses(Promise::empty, x -> x.put(0), BAD_VALUE);
    }

    @Sentence(CODES)
    static void theLeastAndTheGreatestCode() {
        for (int place = 0; place < 8; place++) {
            is(new LayeredCharters().put(with(33, place)), 8);
            is(new LayeredCharters().put(with(126, place)), 8);
        }
        is(new LayeredCharters().put(33), 1);
        is(new LayeredCharters().put(126), 1);
    }

    @Sentence(CODES)
    static void codesTooSmall() {
        for (int place = 0; place < 8; place++) {
            badOnAll(with(1, place));
            badOnAll(with(31, place));
            badOnAll(with(32, place));
        }
        badOnAll(32);
        badOnAll(1);
    }

    @Sentence(CODES)
    static void codesTooLarge() {
        for (int place = 0; place < 8; place++) {
            badOnAll(with(127, place));
            badOnAll(with(128, place));
            badOnAll(with(128 + '0', place));
            badOnAll(with(255, place));
        }
        badOnAll(127);
        badOnAll(255);
    }

    @Sentence(CODES)
    static void everyCodeByItself() {
        for (int code = 1; code <= 255; code++) {
            is(new LayeredCharters().put(code), code >= 33 && code <= 126 ? 1 : BAD_VALUE);
        }
    }

    @Sentence(NO_MORE)
    static void everyBitAboveTheEnd() {
        for (int length = 1; length <= 6; length++) {
            long characters = packed("000000".substring(0, length));
            is(new LayeredCharters().put(characters), length);
            for (int bit = 8 * length + 8; bit < 64; bit++) badOnAll(characters | 1L << bit);
        }
    }

    @Sentence(NO_MORE)
    static void charactersAboveTheEnd() {
        for (int place = 0; place < 7; place++) badOnAll(with(0, place));
        badOnAll('0' << 8);
        badOnAll((long) '0' << 56);
        badOnAll((long) '0' << 56 | '0');
        badOnAll(Long.MIN_VALUE);
        badOnAll(Long.MIN_VALUE | '0');
        badOnAll(1L << 32);
        badOnAll(256);
    }

    @Sentence(NO_MORE)
    static void theEndBehind7() {
        is(new LayeredCharters().put(with(0, 7)), 7);
    }

    @Sentence("BAD_VALUE if there is no character, a code is not 33 to 126, or a bit above 8 bits that are 0 is not 0")
    static void farNumbers() {
        badOnAll(-1);
        badOnAll(Long.MAX_VALUE);
        badOnAll(Long.MIN_VALUE);
        badOnAll(Long.MIN_VALUE + 1);
    }

    @Sentence("Returns the length of the pad then")
    static void upTo60() {
        LayeredCharters x = new LayeredCharters();
        for (int i = 1; i <= 60; i++) is(x.put('0'), i);
        for (int length = 1; length <= 8; length++) {
            long characters = packed("00000000".substring(0, length));
            is(padOfLength(60 - length).put(characters), 60);
        }
    }

    @Sentence(AT_MOST_60)
    static void not61() {
        for (int added = 1; added <= 8; added++) {
            int length = 61 - added;
            long characters = packed("00000000".substring(0, added));
            refuses(() -> padOfLength(length), x -> x.put(characters), TOO_MANY);
        }
    }

    @Sentence(AT_MOST_60)
    static void not68() {
        refuses(() -> padOfLength(60), x -> x.put(packed("00000000")), TOO_MANY);
    }

    @Sentence(AT_MOST_60)
    static void roomAgainAfterWipeAndRead() {
        LayeredCharters x = padOfLength(60);
        is(x.put('0'), TOO_MANY);
        x.wipe();
        is(x.put('0'), 1);
        write(x, "p**");
        for (int i = 0; i < 8; i++) write(x, ";1b**5");
        write(x, ";0p00");
        is(x.count(15), 57);
        is(x.put(packed("0000")), TOO_MANY);
        is(x.read(), 14);
        is(x.put(packed("00000000")), 8);
    }

    @Sentence(NOTHING)
    static void partOfTheCharactersIsNotPut() {
        LayeredCharters x = padOf("0p**;1b**5;0p01;2w0*9;0p44;4b*53;0p**;0b001;0w029;0p**;0p0");
        is(x.count(15), 58);
        is(x.put(packed("0;1")), TOO_MANY);
        is(x.put('0'), 59);
        is(x.read(), 11);
    }

    @Sentence(ORDER)
    static void badValueAheadOfTooMany() {
        refuses(() -> padOfLength(60), x -> x.put(0), BAD_VALUE);
        refuses(() -> padOfLength(60), x -> x.put(32), BAD_VALUE);
        refuses(() -> padOfLength(60), x -> x.put(with(127, 7)), BAD_VALUE);
        refuses(() -> padOfLength(60), x -> x.put(with(0, 3)), BAD_VALUE);
        refuses(() -> padOfLength(60), x -> x.put(-1), BAD_VALUE);
    }

    @Sentence(RECORDS)
    static void isNoChange() {
        LayeredCharters x = new LayeredCharters();
        x.put('0');
        is(x.count(16), 0);
        is(x.undo(), NOT_POSSIBLE);
        is(x.count(15), 1);
        same(state(x), state(new LayeredCharters()));
    }
}
