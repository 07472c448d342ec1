/** Promise 1: a new object. */
public final class Promise01Test extends Promise {
    public static void main(String[] args) throws ReflectiveOperationException {
        run(Promise01Test.class);
    }

    @Sentence("Creates a charter without rules")
    static void noRules() {
        LayeredCharters x = new LayeredCharters();
        for (int what = 0; what <= 6; what++) is(x.count(what), 0);
        is(x.rule(0, 0), NO_SUCH);
        is(x.ifStruck(0), NO_SUCH);
        is(x.worstBan(), NONE);
    }

    @Sentence("and a guild without members")
    static void noMembers() {
        LayeredCharters x = new LayeredCharters();
        for (int what = 7; what <= 14; what++) is(x.count(what), 0);
        is(x.member(0, 0), NO_SUCH);
        is(x.leave(0), NO_SUCH);
    }

    @Sentence("A method that fails returns one of the error codes NO_SUCH (-1), BAD_VALUE (-2), BAD_TEXT (-3), "
        + "TOO_MANY (-4) and NOT_POSSIBLE (-5)")
    static void errorCodes() {
        LayeredCharters x = new LayeredCharters();
        is(LayeredCharters.NO_SUCH, -1);
        is(LayeredCharters.BAD_VALUE, -2);
        is(LayeredCharters.BAD_TEXT, -3);
        is(LayeredCharters.TOO_MANY, -4);
        is(LayeredCharters.NOT_POSSIBLE, -5);
        is(LayeredCharters.NONE, -6);
        is(x.strike(0), -1);
        is(x.count(17), -2);
        is(x.read(), -3);
        for (int i = 0; i < 10; i++) x.join(0, 0);
        is(x.join(0, 0), -4);
        is(x.restore(0), -5);
        is(x.worstBan(), -6);
    }

    @Sentence("It is permitted, if a permit fits.")
    static void nothingIsPermitted() {
        LayeredCharters x = new LayeredCharters();
        for (int deed = 0; deed <= 5; deed++) {
            for (int craft = 0; craft <= 4; craft++) {
                is(x.why(craft, deed, 0), 100);
                is(x.why(craft, deed, 9), 100);
                is(x.allowed(craft, deed, 9, 0), 0);
                is(x.allowed(craft, deed, 9, 1), 0);
                is(x.leastRank(craft, deed), NONE);
            }
        }
    }

    @Sentence("Creates a charter without rules, and a guild without members.")
    static void padHistoryAndSlotsAreEmpty() {
        LayeredCharters x = new LayeredCharters();
        is(x.count(15), 0);
        is(x.fault(), 0);
        is(x.count(16), 0);
        is(x.undo(), NOT_POSSIBLE);
        is(x.restore(0), NOT_POSSIBLE);
        is(x.restore(1), NOT_POSSIBLE);
        is(x.wipe(), 0);
    }

    @Sentence("Creates a charter without rules, and a guild without members.")
    static void eachObjectHasItsOwn() {
        LayeredCharters x = busy();
        LayeredCharters other = new LayeredCharters();
        same(all(other), all(new LayeredCharters()));
        is(other.restore(0), NOT_POSSIBLE);
        other.join(3, 3);
        other.put('0');
        other.save(0);
        same(all(x), all(busy()));
    }

    @Sentence("An object is used for at most 512 calls after it has been made")
    static void deedsUpToTheCall512() {
        LayeredCharters x = new LayeredCharters();
        x.add(0, 0, 0, 0, 1);
        x.join(0, 0);
        for (int call = 3; call <= 510; call++) is(x.act(0, 0), NONE);
        is(x.count(8), 508);
        is(x.member(0, 3), 508);
    }

    @Sentence("An object is used for at most 512 calls after it has been made")
    static void refusalsUpToTheCall512() {
        LayeredCharters x = new LayeredCharters();
        x.join(4, 9);
        for (int call = 2; call <= 510; call++) is(x.act(0, 5), 100);
        is(x.count(14), 509);
        is(x.member(0, 4), 509);
    }

    @Sentence("An object is used for at most 512 calls after it has been made")
    static void historyUpToTheCall512() {
        LayeredCharters x = new LayeredCharters();
        x.add(0, 1, 5, 6, 9);
        for (int call = 2; call <= 505; call++) is(x.seal(0, 1 + call % 9), call == 2 ? 9 : 1 + (call - 1) % 9);
        for (int left = 5; left >= 0; left--) is(x.undo(), left);
        is(x.rule(0, 4), 1 + 499 % 9);
    }

    @Sentence("An object is used for at most 512 calls after it has been made")
    static void slotsAndPadUpToTheCall512() {
        LayeredCharters x = new LayeredCharters();
        for (int i = 0; i < 127; i++) {
            is(x.save(i % 2), 0);
            is(x.restore(i % 2), 0);
            is(x.put('!'), 1);
            is(x.wipe(), 1);
        }
        is(x.count(16), 6);
        is(x.undo(), 5);
        is(x.put('~'), 1);
        is(x.fault(), 0);
    }
}
