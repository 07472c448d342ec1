import java.lang.annotation.Retention;
import java.lang.annotation.RetentionPolicy;
import java.lang.reflect.InvocationTargetException;
import java.lang.reflect.Method;
import java.lang.reflect.Modifier;
import java.util.Arrays;
import java.util.Comparator;
import java.util.StringJoiner;
import java.util.function.IntUnaryOperator;
import java.util.function.Supplier;
import java.util.function.ToIntFunction;

/**
 * What the tests of the single promises share. Each of their tests is a static method that quotes the sentence it watches.
 * No object of theirs is asked more often than the 512 times for which the document promises its answers.
 */
abstract class Promise {
    static final int NO_SUCH = -1, BAD_VALUE = -2, BAD_TEXT = -3, TOO_MANY = -4, NOT_POSSIBLE = -5, NONE = -6;

    static final String CHANGE = "This is a change.";
    static final String ORDER =
        "it names its errors in the order in which they are checked, and the first one that applies is returned.";
    static final String NOTHING = "A call that returns an error changes nothing.";
    static final String RECORDS = "each method that is a change, and returns no error, records the state before it";

    private static final int MOST_TOLD = 50, MOST_UNDONE = 7;

    private static String test = "";
    private static int answers = 0;
    private static int wrong = 0;

    /** What the document says, and one of its tests watches. */
    @Retention(RetentionPolicy.RUNTIME)
    @interface Sentence {
        String value();
    }

    static void run(Class<?> tests) throws ReflectiveOperationException {
        Method[] methods = tests.getDeclaredMethods();
        Arrays.sort(methods, Comparator.comparing(Method::getName));
        int done = 0;
        int asked = 0;
        for (Method method : methods) {
            if (Modifier.isPrivate(method.getModifiers()) || method.getName().equals("main")) continue;
            test = tests.getName() + "." + method.getName();
            answers = 0;
            if (!method.isAnnotationPresent(Sentence.class)) tell("quotes no sentence");
            invoke(method);
            if (answers == 0) tell("asked nothing");
            asked += answers;
            done++;
        }
        if (done == 0) tell("has no tests");
        System.out.println(tests.getName() + ": " + done + " tests, " + asked + " answers, " + wrong + " not as due");
        if (wrong != 0) System.exit(1);
    }

    private static void invoke(Method method) throws ReflectiveOperationException {
        if (!Modifier.isStatic(method.getModifiers()) || method.getParameterCount() != 0) {
            tell("is no static method without parameters");
            return;
        }
        try {
            method.invoke(null);
        } catch (InvocationTargetException thrown) {
            thrown.getCause().printStackTrace(System.out);
            tell("threw " + thrown.getCause());
        }
    }

    private static void tell(String what) {
        wrong++;
        if (wrong <= MOST_TOLD) System.out.println(test + " " + what);
    }

    /** The line of the test, because a call is told by it. */
    private static int line() {
        return StackWalker.getInstance().walk(frames -> frames
            .filter(frame -> frame.getClassName().matches("Promise\\d\\dTest"))
            .findFirst().map(StackWalker.StackFrame::getLineNumber).orElse(0));
    }

    static void is(long got, long want) {
        answers++;
        if (got != want) tell("(line " + line() + ") answered " + got + ", due is " + want);
    }

    static void same(String got, String want) {
        answers++;
        if (!got.equals(want)) tell("(line " + line() + ") answered\n    " + got + ", due is\n    " + want);
    }

    /** The call answers the error, and leaves an object that can't be told from one without the call. */
    static void refuses(Supplier<LayeredCharters> make, ToIntFunction<LayeredCharters> call, int want) {
        LayeredCharters x = make.get();
        is(call.applyAsInt(x), want);
        is(call.applyAsInt(x), want);
        same(all(x), all(make.get()));
        leavesAlone(make, call);
    }

    /** The call leaves the rules, the members, the history, the slots and the pad as they are. */
    static void leavesAlone(Supplier<LayeredCharters> make, ToIntFunction<LayeredCharters> call) {
        leaves(make, call, Promise::all);
        for (int slot = 0; slot <= 1; slot++) {
            int which = slot;
            leaves(make, call, x -> x.restore(which) + ": " + state(x));
        }
        leaves(make, call, x -> x.read() + ": " + state(x));
        for (int times = 1; times <= MOST_UNDONE; times++) {
            int steps = times;
            leaves(make, call, x -> undone(x, steps) + ": " + state(x));
        }
    }

    private interface View {
        String of(LayeredCharters x);
    }

    private static void leaves(Supplier<LayeredCharters> make, ToIntFunction<LayeredCharters> call, View view) {
        LayeredCharters x = make.get();
        call.applyAsInt(x);
        same(view.of(x), view.of(make.get()));
    }

    private static String undone(LayeredCharters x, int steps) {
        StringBuilder answers = new StringBuilder();
        for (int i = 0; i < steps; i++) answers.append(x.undo()).append(' ');
        return answers.toString();
    }

    /** The call is recorded, and its undo brings back the rules and the members that there were before. */
    static void isAChange(Supplier<LayeredCharters> make, ToIntFunction<LayeredCharters> call) {
        LayeredCharters before = make.get();
        int recorded = before.count(16);
        LayeredCharters x = make.get();
        call.applyAsInt(x);
        int then = Math.min(recorded + 1, 6);
        is(x.count(16), then);
        is(x.undo(), then - 1);
        same(state(x), state(before));
        if (recorded < 6) is(x.undo(), recorded == 0 ? NOT_POSSIBLE : recorded - 1);
    }

    /** All that undo and the slots bring back. */
    static String state(LayeredCharters x) {
        StringBuilder state = new StringBuilder();
        for (int what = 7; what <= 14; what++) state.append(x.count(what)).append(' ');
        for (int rule = 0; rule < x.count(0); rule++) state.append("| ").append(fields(x, rule)).append(' ');
        int members = x.count(7);
        for (int member = 0; member < members; member++) state.append("/ ").append(told(x, member)).append(' ');
        return state.toString();
    }

    static String all(LayeredCharters x) {
        StringBuilder all = new StringBuilder(state(x));
        for (int what = 0; what <= 16; what++) all.append(x.count(what)).append(' ');
        return all.append(x.fault()).toString();
    }

    /** A rule's layer, kind, craft, deed and seal. */
    static String fields(LayeredCharters x, int rule) {
        return told(what -> x.rule(rule, what), 0, 1, 2, 3, 4);
    }

    /** All that there is about a rule. */
    static String allOf(LayeredCharters x, int rule) {
        return told(what -> x.rule(rule, what), 0, 1, 2, 3, 4, 5, 6, 7);
    }

    /** A member's craft, rank, deeds that it did, and refusals. */
    static String told(LayeredCharters x, int member) {
        return told(what -> x.member(member, what), 0, 1, 3, 4);
    }

    private static String told(IntUnaryOperator question, int... whats) {
        StringJoiner told = new StringJoiner(" ");
        for (int what : whats) told.add(Integer.toString(question.applyAsInt(what)));
        return told.toString();
    }

    static LayeredCharters empty() {
        return new LayeredCharters();
    }

    /** Each rule is read by itself, so that there may be more of them than the pad holds. */
    static LayeredCharters charter(String text) {
        LayeredCharters x = new LayeredCharters();
        for (String rule : text.split(";")) {
            write(x, rule);
            if (x.read() < 0) throw new IllegalStateException("the test's own text has a fault: " + text);
        }
        return x;
    }

    static LayeredCharters padOf(String text) {
        LayeredCharters x = new LayeredCharters();
        write(x, text);
        return x;
    }

    /** Puts a text of any length, 8 characters at a time. */
    static void write(LayeredCharters x, String text) {
        for (int i = 0; i < text.length(); i += 8) x.put(packed(text.substring(i, Math.min(i + 8, text.length()))));
    }

    static long packed(String characters) {
        return Check.packed(characters);
    }

    /** Four rules and two members; both slots, the history and the pad, which can be read, have something in them. */
    static LayeredCharters busy() {
        LayeredCharters x = charter("0p**;1b0*5;2w009;3b*47");
        x.save(1);
        x.join(0, 4);
        x.join(1, 9);
        x.save(0);
        x.act(0, 1);
        x.act(1, 4);
        x.rank(1, 6);
        x.seal(3, 6);
        write(x, "4b121;0p3*");
        return x;
    }

    /** As many rules as there may be: a permit of everything, behind it bans and waivers by turns. */
    static LayeredCharters full() {
        LayeredCharters x = charter("0p**");
        for (int i = 1; i < 24; i++) x.add(i % 5, 1 + i % 2, i % 6, i % 7, 1 + i % 9);
        return x;
    }

    /** As many members as there may be, the ranks of which are their numbers, and who may do the deed 0. */
    static LayeredCharters ten() {
        LayeredCharters x = charter("0p*0");
        for (int i = 0; i < 10; i++) x.join(i % 5, i);
        return x;
    }

    /** What is too small, also what a cut to fewer bits would let pass. */
    static int[] below(int least) {
        return new int[] {least - 1, least - 256, least - 65536, Integer.MIN_VALUE + least, Integer.MIN_VALUE};
    }

    /** What is too large, also what a cut to fewer bits would let pass. */
    static int[] above(int greatest) {
        return new int[] {greatest + 1, greatest + 256, greatest + 65536, Integer.MAX_VALUE};
    }
}
