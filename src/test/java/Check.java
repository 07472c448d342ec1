/** What a test's answers were and which were due; ends the test with exit code 1 if one was wrong. */
final class Check {
    private final String test;
    private String part = "";
    private int answers = 0;
    private int wrong = 0;

    Check(String test) {
        this.test = test;
    }

    void part(String part) {
        this.part = part;
    }

    void is(String call, long got, long want) {
        answers++;
        if (got == want) return;
        wrong++;
        if (wrong <= 50) System.out.println(test + ", " + part + ": " + call + " answered " + got + ", due is " + want);
    }

    void isText(String call, String got, String want) {
        answers++;
        if (got.equals(want)) return;
        wrong++;
        if (wrong <= 50) System.out.println(test + ", " + part + ": " + call + " answered\n  " + got + ", due is\n  " + want);
    }

    void end() {
        System.out.println(test + ": " + answers + " answers, " + wrong + " not as due");
        if (wrong != 0) System.exit(1);
    }

    /** Up to 8 characters as the number by which they are put. */
    static long packed(String characters) {
        long packed = 0;
        for (int i = 0; i < characters.length(); i++) packed = packed << 8 | characters.charAt(i);
        return packed;
    }
}
