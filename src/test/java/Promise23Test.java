/** Promise 23: fault. */
public final class Promise23Test extends Promise {
    private static final String FAULT = "The fault is the index of the first character that cannot stand at its place "
        + "when the text is read from left to right";
    private static final String TOO_EARLY =
        "if there is none and the text ends too early (also if it is empty), it is the length of the text.";
    private static final String RULE = "rule = layer kind craft deed [ seal ]";
    private static final String KIND = "a kind one of p, b and w (permit, ban, waiver; p behind the layer 0 alone)";
    private static final String SEAL =
        "a seal a digit 1 to 9, which a ban and a waiver must have, and a permit must not (it has the seal 1).";

    public static void main(String[] args) throws ReflectiveOperationException {
        run(Promise23Test.class);
    }

    private static void fault(String text, int want) {
        is(padOf(text).fault(), want);
        is(padOf(text).read() < 0 ? 1 : 0, want == NONE ? 0 : 1);
    }

    /** Of all signs that a pad can have, those alone can stand behind the start. */
    private static void canStand(String start, String signs) {
        for (char sign = 33; sign <= 126; sign++) {
            boolean at = padOf(start + sign).fault() == start.length();
            is(at ? 1 : 0, signs.indexOf(sign) < 0 ? 1 : 0);
        }
    }

    @Sentence("NONE if there is none.")
    static void noFault() {
        for (String text : new String[] {"0p**", "0p00", "0p45", "0b**1", "4w459", "1b0*5", "2w*08"}) fault(text, NONE);
    }

    @Sentence("text = rule { \";\" rule }")
    static void severalRules() {
        fault("0p**;0p**", NONE);
        fault("0p**;1b**5;0p**", NONE);
        fault("1b**5;2w**6;3b007;4w118;0b**9", NONE);
        fault("0p**,0p**", 4);
        fault("0p**0p**", 4);
        fault("1b**51b**5", 5);
    }

    @Sentence("text = rule { \";\" rule }")
    static void semicolonAheadBehindAndTwice() {
        fault(";", 0);
        fault(";0p**", 0);
        fault("0p**;", 5);
        fault("0p**;;", 5);
        fault("0p**;;0p**", 5);
        fault("1b**5;", 6);
        fault("1b**5;;", 6);
    }

    @Sentence("text = rule { \";\" rule }")
    static void semicolonWithinARule() {
        fault("0;p**", 1);
        fault("0p;**", 2);
        fault("0p*;*", 3);
        fault("0b**;5", 4);
    }

    @Sentence("a layer is a digit 0 to 4")
    static void layerSigns() {
        canStand("", "01234");
        canStand("0p**;", "01234");
        canStand("1b**5;", "01234");
    }

    @Sentence(KIND)
    static void kindSigns() {
        canStand("0", "pbw");
        canStand("0p**;0", "pbw");
        for (int layer = 1; layer <= 4; layer++) canStand("" + layer, "bw");
    }

    @Sentence("p behind the layer 0 alone")
    static void permitOfAnotherLayer() {
        for (int layer = 1; layer <= 4; layer++) {
            fault(layer + "p**", 1);
            fault("0p**;" + layer + "p**", 6);
            fault("0b**5;" + layer + "p", 7);
        }
        fault("1b**5;0p**", NONE);
    }

    @Sentence("a craft a digit 0 to 4 or \"*\"")
    static void craftSigns() {
        canStand("0p", "01234*");
        canStand("0b", "01234*");
        canStand("4w", "01234*");
        canStand("0p**;3b", "01234*");
    }

    @Sentence("a deed a digit 0 to 5 or \"*\"")
    static void deedSigns() {
        canStand("0p0", "012345*");
        canStand("0b*", "012345*");
        canStand("4w4", "012345*");
        canStand("0p**;3b*", "012345*");
    }

    @Sentence(SEAL)
    static void sealSigns() {
        canStand("0b**", "123456789");
        canStand("4w45", "123456789");
        canStand("0p**;3b00", "123456789");
    }

    @Sentence("which a ban and a waiver must have")
    static void bansAndWaiversWithoutOne() {
        fault("0b**", 4);
        fault("0w**", 4);
        fault("0b**;", 4);
        fault("0b**;0p**", 4);
        fault("0p**;4w00;0p**", 9);
    }

    @Sentence("and a permit must not (it has the seal 1)")
    static void permitsWithOne() {
        canStand("0p**", ";");
        canStand("0p45", ";");
        for (int seal = 0; seal <= 9; seal++) fault("0p**" + seal, 4);
        fault("0b**5;0p**1", 10);
    }

    @Sentence(RULE)
    static void oneSignMoreThanARuleHas() {
        canStand("0b**5", ";");
        canStand("4w009", ";");
        fault("0b**55", 5);
    }

    @Sentence(FAULT)
    static void theFirstOfSeveral() {
        fault("5q!!0", 0);
        fault("0q!!0", 1);
        fault("0b!!0", 2);
        fault("0b0!0", 3);
        fault("0b000", 4);
        fault("0p**;9;9;9", 5);
    }

    @Sentence(FAULT)
    static void aheadOfAnEndThatIsTooEarly() {
        fault("0p**;1p", 6);
        fault("0x", 1);
        fault("9", 0);
    }

    @Sentence(FAULT)
    static void theIndexes0And59() {
        String start = "0p**;1b**5;0p01;2w0*9;0p44;4b*53;0p**;0b001;0w029;0p**;0w00";
        fault("x" + start.substring(1) + "9", 0);
        fault(start + "0", 59);
        fault(start + "9", NONE);
    }

    @Sentence(TOO_EARLY)
    static void emptyText() {
        is(new LayeredCharters().fault(), 0);
        refuses(Promise::empty, LayeredCharters::read, BAD_TEXT);
    }

    @Sentence(TOO_EARLY)
    static void everyStartOfAText() {
        String whole = "0p*3;2b1*4;0p05;4w239";
        for (int end = 0; end < whole.length(); end++) {
            fault(whole.substring(0, end), end == 4 || end == 10 || end == 15 ? NONE : end);
        }
    }

    @Sentence(TOO_EARLY)
    static void the60thCharacterIsASemicolon() {
        String start = "0p**;1b**5;0p01;2w0*9;0p44;4b*53;0p**;0b001;0w029;0p**;0p00";
        is(start.length(), 59);
        fault(start, NONE);
        fault(start + ";", 60);
    }

    @Sentence("Returns the fault of the pad")
    static void afterEachPut() {
        LayeredCharters x = new LayeredCharters();
        String text = "0p**;4w459";
        for (int i = 0; i < text.length(); i++) {
            is(x.fault(), i == 4 ? NONE : i);
            x.put(text.charAt(i));
        }
        is(x.fault(), NONE);
        x.put('9');
        is(x.fault(), 10);
        x.put('!');
        is(x.fault(), 10);
        x.wipe();
        is(x.fault(), 0);
    }

    @Sentence("Returns the fault of the pad")
    static void whetherThereIsRoomForItsRulesDoesNotMatter() {
        LayeredCharters x = full();
        write(x, "0p**");
        is(x.fault(), NONE);
    }

    @Sentence("Returns the fault of the pad, NONE if there is none.")
    static void changesNothing() {
        leavesAlone(Promise::busy, LayeredCharters::fault);
        leavesAlone(() -> padOf("0p**;7"), LayeredCharters::fault);
        leavesAlone(Promise::empty, LayeredCharters::fault);
    }
}
