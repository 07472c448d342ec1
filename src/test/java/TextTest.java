/** Promises 21 to 23: the pad, its faults; with read (6), what its texts mean. */
public final class TextTest {
    private static final Check CHECK = new Check("TextTest");

    public static void main(String[] args) {
        put();
        putWrong();
        putUpTo60();
        wipe();
        faults();
        everySign();
        faultOf60();
        readSigns();
        CHECK.end();
    }

    private static void put() {
        CHECK.part("promise 21");
        LayeredCharters x = new LayeredCharters();
        CHECK.is("put(one)", x.put('0'), 1);
        CHECK.is("put(two)", x.put(('p' << 8) + '*'), 3);
        CHECK.is("put(one)", x.put('*'), 4);
        CHECK.is("fault()", x.fault(), Check.NONE);
        CHECK.is("count(15)", x.count(15), 4);
        CHECK.is("put(eight)", x.put(Check.packed(";1b231;2")), 12);
        CHECK.is("put(three)", x.put(Check.packed("w45")), 15);
        CHECK.is("put(one)", x.put('9'), 16);
        CHECK.is("count(16)", x.count(16), 0);
        CHECK.is("read()", x.read(), 3);
        CHECK.isText("rule 0", Check.five(x, 0), "0 0 5 6 1");
        CHECK.isText("rule 1", Check.five(x, 1), "1 1 2 3 1");
        CHECK.isText("rule 2", Check.five(x, 2), "2 2 4 5 9");
        for (int length = 1; length <= 8; length++) {
            CHECK.is("put(" + length + ")", new LayeredCharters().put(Check.packed("~!~!~!~!".substring(0, length))), length);
        }
    }

    private static void refusePut(LayeredCharters x, long characters, int want) {
        CHECK.refused(x, Check.view(x), "put(" + characters + ")", x.put(characters), want);
    }

    private static void putWrong() {
        CHECK.part("promise 21, errors");
        LayeredCharters x = new LayeredCharters();
        Check.write(x, "0p*");
        long[] wrong = {0, 32, 127, 128, 255, 256, '0' << 8, ('0' << 16) + '0', 1L << 32, 1L << 56, 1L << 62,
            ((long) '0' << 56) + '0', -1, Long.MIN_VALUE, Long.MAX_VALUE, Long.MIN_VALUE + '0', (1 << 8) + '0',
            (32 << 8) + '0', (127 << 8) + '0', ('0' << 8) + 32, ('0' << 8) + 127, (1L << 16) + '0', (1L << 63) + 0x30303030303030L};
        for (long characters : wrong) refusePut(x, characters, Check.BAD_VALUE);
        for (int at = 0; at < 8; at++) {
            long eight = Check.packed("00000000") & ~(255L << (8 * at));
            if (at < 7) refusePut(x, eight, Check.BAD_VALUE);
            refusePut(x, eight | (32L << (8 * at)), Check.BAD_VALUE);
            refusePut(x, eight | (127L << (8 * at)), Check.BAD_VALUE);
            refusePut(x, eight | (128L << (8 * at)), Check.BAD_VALUE);
        }
        CHECK.is("put(33)", x.put(33), 4);
        CHECK.is("put(126)", x.put(126), 5);
    }

    private static void putUpTo60() {
        CHECK.part("promise 21, 60 characters");
        LayeredCharters x = new LayeredCharters();
        for (int i = 1; i <= 7; i++) CHECK.is("put(eight)", x.put(Check.packed("00000000")), 8 * i);
        refusePut(x, Check.packed("00000"), Check.TOO_MANY);
        refusePut(x, Check.packed("00000000"), Check.TOO_MANY);
        refusePut(x, Check.packed("0000") << 8, Check.BAD_VALUE);
        CHECK.is("put(three)", x.put(Check.packed("000")), 59);
        refusePut(x, Check.packed("00"), Check.TOO_MANY);
        CHECK.is("put(one)", x.put('0'), 60);
        refusePut(x, '0', Check.TOO_MANY);
        refusePut(x, 0, Check.BAD_VALUE);
        refusePut(x, 32, Check.BAD_VALUE);
        refusePut(x, -1, Check.BAD_VALUE);
    }

    private static void wipe() {
        CHECK.part("promise 22");
        LayeredCharters x = new LayeredCharters();
        CHECK.is("wipe() of nothing", x.wipe(), 0);
        Check.write(x, "0p**;0");
        CHECK.is("wipe()", x.wipe(), 6);
        CHECK.is("count(15)", x.count(15), 0);
        CHECK.is("count(16)", x.count(16), 0);
        CHECK.is("fault()", x.fault(), 0);
        CHECK.is("wipe() again", x.wipe(), 0);
        CHECK.is("put(one)", x.put('1'), 1);
        CHECK.is("fault()", x.fault(), 1);
        for (int i = 0; i < 59; i++) x.put('1');
        CHECK.is("wipe() of 60", x.wipe(), 60);
    }

    private static void fault(String text, int want) {
        LayeredCharters x = new LayeredCharters();
        Check.write(x, text);
        CHECK.is("fault() of " + text, x.fault(), want);
        CHECK.is("fault() of " + text + " again", x.fault(), want);
        CHECK.is("count(15)", x.count(15), text.length());
        int rules = text.split(";").length;
        CHECK.is("read() of " + text, x.read(), want == Check.NONE ? rules : Check.BAD_TEXT);
    }

    private static void faults() {
        CHECK.part("promise 23");
        fault("", 0);
        String[] texts = {"0p**", "0p00", "0p45", "0b**1", "4w459", "1b0*5", "2w*08", "3b123;0p1*", "0w111;0p22;4b339;0p**;0b009"};
        for (String text : texts) fault(text, Check.NONE);
        String whole = "0p*3;2b1*4;0p05;4w239";
        for (int end = 0; end < whole.length(); end++) {
            boolean ends = end == 4 || end == 10 || end == 15;
            fault(whole.substring(0, end), ends ? Check.NONE : end);
        }
        fault("0p**1", 4);
        fault("0p**;;", 5);
        fault(";0p**", 0);
        fault("0b**", 4);
        fault("0b**;", 4);
        fault("0b**0", 4);
        fault("0b**5;", 6);
        fault("0b**55", 5);
        fault("0b**5;0w**6;1p**", 13);
        fault("0p**;1b**5;5b**5", 11);
        fault("*p**", 0);
        fault("0b6*5", 2);
        fault("0b*65", 3);
        fault("0B**5", 1);
        for (int layer = 1; layer <= 4; layer++) fault(layer + "p**", 1);
    }

    /** Every sign at every place: one that cannot stand there is the fault. */
    private static void everySign() {
        CHECK.part("promise 23, every sign");
        signs("", "01234", "b**5");
        signs("0", "pbw", "**5");
        signs("3", "bw", "**5");
        signs("0b", "01234*", "*5");
        signs("0p", "01234*", "*");
        signs("0b0", "012345*", "5");
        signs("0p0", "012345*", "");
        signs("0b00", "123456789", "");
        signs("0w00", "123456789", "");
        signs("0p00", ";", "0p00");
        signs("0b001", ";", "0p00");
        signs("0p00;", "01234", "b**5");
    }

    private static void signs(String before, String good, String after) {
        for (char sign = 33; sign <= 126; sign++) {
            LayeredCharters x = new LayeredCharters();
            Check.write(x, before + sign);
            boolean stands = good.indexOf(sign) >= 0;
            CHECK.is("fault() of " + before + sign, x.fault() == before.length() ? 1 : 0, stands ? 0 : 1);
            if (!stands || sign == 'p' && after.length() == 3) continue;
            Check.write(x, after);
            CHECK.is("fault() of " + before + sign + after, x.fault(), Check.NONE);
        }
    }

    private static void faultOf60() {
        CHECK.part("promise 23, 60 characters");
        LayeredCharters x = new LayeredCharters();
        String ten = "0p**;1b**5;0p01;2w0*9;0p44;4b*53;0p**;0b001;0w02";
        Check.write(x, ten + "9;0p**;0p00;");
        CHECK.is("count(15)", x.count(15), 60);
        CHECK.is("fault(), it ends too early", x.fault(), 60);
        CHECK.is("read()", x.read(), Check.BAD_TEXT);
        x.wipe();
        Check.write(x, ten + "9;0p**;0w009");
        CHECK.is("count(15)", x.count(15), 60);
        CHECK.is("fault()", x.fault(), Check.NONE);
        CHECK.is("read()", x.read(), 11);
        CHECK.isText("rule 10", Check.five(x, 10), "0 2 0 0 9");
        Check.write(x, ten + "9;0p**;0w000");
        CHECK.is("fault(), the last one", x.fault(), 59);
    }

    private static void readSigns() {
        CHECK.part("promise 6, what the signs mean");
        String crafts = "01234*";
        String deeds = "012345*";
        String kinds = "pbw";
        for (int craft = 0; craft <= 5; craft++) {
            for (int deed = 0; deed <= 6; deed++) {
                for (int kind = 0; kind <= 2; kind++) {
                    int layer = kind == 0 ? 0 : (craft + deed) % 5;
                    int seal = kind == 0 ? 1 : 1 + (craft + 2 * deed) % 9;
                    String text = "" + layer + kinds.charAt(kind) + crafts.charAt(craft) + deeds.charAt(deed);
                    LayeredCharters x = new LayeredCharters();
                    Check.write(x, kind == 0 ? text : text + seal);
                    CHECK.is("read() of " + text, x.read(), 1);
                    CHECK.isText(text, Check.five(x, 0), layer + " " + kind + " " + craft + " " + deed + " " + seal);
                }
            }
        }
    }
}
