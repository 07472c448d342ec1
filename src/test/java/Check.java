/** What a test's answers were and which were due; ends the test with exit code 1 if one was wrong. */
final class Check {
    static final int NO_SUCH = -1, BAD_VALUE = -2, BAD_TEXT = -3, TOO_MANY = -4, NOT_POSSIBLE = -5, NONE = -6;

    private final String test;
    private String part = "";
    private int answers = 0;
    private int wrong = 0;

    Check(String test) {
        this.test = test;
    }

    void part(String part) {
        this.part = part;
    }

    void is(String call, long got, long want) {
        answers++;
        if (got == want) return;
        wrong++;
        if (wrong <= 50) System.out.println(test + ", " + part + ": " + call + " answered " + got + ", due is " + want);
    }

    void isText(String call, String got, String want) {
        answers++;
        if (got.equals(want)) return;
        wrong++;
        if (wrong <= 50) System.out.println(test + ", " + part + ": " + call + " answered\n  " + got + ", due is\n  " + want);
    }

    /** A call, made after the view before it was taken, that has to answer an error and to change nothing. */
    void refused(LayeredCharters x, String before, String call, int got, int want) {
        is(call, got, want);
        isText("what " + call + " left", view(x), before);
    }

    void end() {
        System.out.println(test + ": " + answers + " answers, " + wrong + " not as due");
        if (wrong != 0) System.exit(1);
    }

    /** All that can be asked without a change. */
    static String view(LayeredCharters x) {
        StringBuilder view = new StringBuilder();
        for (int what = 0; what <= 16; what++) view.append(x.count(what)).append(' ');
        for (int rule = 0; rule < x.count(0); rule++) view.append("| ").append(ruleView(x, rule));
        for (int member = 0; member < x.count(7); member++) {
            view.append("/ ");
            for (int what = 0; what <= 4; what++) view.append(x.member(member, what)).append(' ');
        }
        view.append("; ");
        for (int craft = 0; craft < 5; craft++) {
            for (int deed = 0; deed < 6; deed++) view.append(x.leastRank(craft, deed)).append(' ');
        }
        return view.append(x.fault()).toString();
    }

    static String ruleView(LayeredCharters x, int rule) {
        StringBuilder view = new StringBuilder();
        for (int what = 0; what <= 7; what++) view.append(x.rule(rule, what)).append(' ');
        return view.toString();
    }

    /** A rule's layer, kind, craft, deed and seal. */
    static String five(LayeredCharters x, int rule) {
        StringBuilder view = new StringBuilder();
        for (int what = 0; what <= 4; what++) view.append(what == 0 ? "" : " ").append(x.rule(rule, what));
        return view.toString();
    }

    static long packed(String characters) {
        long packed = 0;
        for (int i = 0; i < characters.length(); i++) packed = packed << 8 | characters.charAt(i);
        return packed;
    }

    /** Puts a text of any length, 8 characters at a time; the answer is that of the last call. */
    static int write(LayeredCharters x, String text) {
        int answer = x.count(15);
        for (int i = 0; i < text.length(); i += 8) {
            answer = x.put(packed(text.substring(i, Math.min(i + 8, text.length()))));
        }
        return answer;
    }

    static LayeredCharters charterOf(String text) {
        LayeredCharters x = new LayeredCharters();
        for (String rule : text.split(";")) {
            write(x, rule);
            if (x.read() < 0) throw new IllegalStateException("the test's own text has a fault: " + text);
        }
        return x;
    }
}
