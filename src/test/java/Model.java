import java.util.ArrayList;
import java.util.Arrays;
import java.util.List;

/** The document's words, told once more in the slowest way: each triple is asked for by itself. */
final class Model {
    static final int LAYER = 0, KIND = 1, CRAFT = 2, DEED = 3, SEAL = 4;

    private static final class State {
        final List<int[]> rules = new ArrayList<>();
        final List<int[]> members = new ArrayList<>();
        int[] refusals = new int[6];
        int done = 0;

        State copy() {
            State copy = new State();
            for (int[] rule : rules) copy.rules.add(rule.clone());
            for (int[] member : members) copy.members.add(member.clone());
            copy.refusals = refusals.clone();
            copy.done = done;
            return copy;
        }
    }

    private State now = new State();
    private final List<State> history = new ArrayList<>();
    private final State[] slots = new State[2];
    private String pad = "";

    private static boolean in(int value, int least, int greatest) {
        return least <= value && value <= greatest;
    }

    private static boolean fits(int[] rule, int craft, int deed) {
        return (rule[CRAFT] == 5 || rule[CRAFT] == craft) && (rule[DEED] == 6 || rule[DEED] == deed);
    }

    private static boolean holds(List<int[]> rules, int[] ban, int craft, int deed, int rank) {
        if (ban[KIND] != 1 || !fits(ban, craft, deed) || rank >= ban[SEAL]) return false;
        for (int[] waiver : rules) {
            boolean reaches = waiver[KIND] == 2 && fits(waiver, craft, deed) && waiver[LAYER] <= ban[LAYER];
            if (reaches && waiver[SEAL] >= ban[SEAL]) return false;
        }
        return true;
    }

    private static int reason(List<int[]> rules, int craft, int deed, int rank) {
        boolean permitted = false;
        for (int[] rule : rules) permitted |= rule[KIND] == 0 && fits(rule, craft, deed);
        if (!permitted) return 100;
        for (int layer = 0; layer < 5; layer++) {
            for (int i = 0; i < rules.size(); i++) {
                if (rules.get(i)[LAYER] == layer && holds(rules, rules.get(i), craft, deed, rank)) return i;
            }
        }
        return -6;
    }

    private static boolean[] triples(List<int[]> rules) {
        boolean[] allowed = new boolean[300];
        for (int i = 0; i < 300; i++) allowed[i] = reason(rules, i / 60, i / 10 % 6, i % 10) == -6;
        return allowed;
    }

    private static int sum(boolean[] triples) {
        int sum = 0;
        for (boolean allowed : triples) sum += allowed ? 1 : 0;
        return sum;
    }

    private List<int[]> without(int rule) {
        List<int[]> rules = new ArrayList<>(now.rules);
        rules.remove(rule);
        return rules;
    }

    private boolean idle(int rule) {
        return Arrays.equals(triples(now.rules), triples(without(rule)));
    }

    private static boolean atOdds(int[] one, int[] other) {
        if ((one[KIND] == 1) == (other[KIND] == 1)) return false;
        for (int i = 0; i < 30; i++) {
            if (fits(one, i / 6, i % 6) && fits(other, i / 6, i % 6)) return true;
        }
        return false;
    }

    private boolean isRule(int rule) {
        return in(rule, 0, now.rules.size() - 1);
    }

    private boolean isMember(int member) {
        return in(member, 0, now.members.size() - 1);
    }

    private void record() {
        history.add(now.copy());
        if (history.size() > 6) history.remove(0);
    }

    int add(int layer, int kind, int craft, int deed, int seal) {
        if (!in(layer, 0, 4) || !in(craft, 0, 5) || !in(deed, 0, 6)) return -1;
        if (!in(kind, 0, 2) || !in(seal, 1, 9)) return -2;
        if (kind == 0 && layer != 0) return -5;
        if (now.rules.size() == 24) return -4;
        record();
        now.rules.add(new int[] {layer, kind, craft, deed, seal});
        return now.rules.size() - 1;
    }

    int strike(int rule) {
        if (!isRule(rule)) return -1;
        record();
        now.rules.remove(rule);
        return now.rules.size();
    }

    int seal(int rule, int seal) {
        if (!isRule(rule)) return -1;
        if (!in(seal, 1, 9)) return -2;
        record();
        int before = now.rules.get(rule)[SEAL];
        now.rules.get(rule)[SEAL] = seal;
        return before;
    }

    int move(int rule, int layer) {
        if (!isRule(rule) || !in(layer, 0, 4)) return -1;
        if (now.rules.get(rule)[KIND] == 0 && layer != 0) return -5;
        record();
        int before = now.rules.get(rule)[LAYER];
        now.rules.get(rule)[LAYER] = layer;
        return before;
    }

    int read() {
        if (fault() != -6) return -3;
        String[] texts = pad.split(";");
        if (now.rules.size() + texts.length > 24) return -4;
        record();
        for (String text : texts) {
            int[] rule = new int[5];
            rule[LAYER] = text.charAt(0) - '0';
            rule[KIND] = "pbw".indexOf(text.charAt(1));
            rule[CRAFT] = "01234*".indexOf(text.charAt(2));
            rule[DEED] = "012345*".indexOf(text.charAt(3));
            rule[SEAL] = text.length() == 5 ? text.charAt(4) - '0' : 1;
            now.rules.add(rule);
        }
        pad = "";
        return now.rules.size();
    }

    int tidy() {
        record();
        int struck = 0;
        for (int rule = 0; rule < now.rules.size(); rule++) {
            if (idle(rule)) {
                now.rules.remove(rule);
                struck++;
                rule = -1;
            }
        }
        return struck;
    }

    int join(int craft, int rank) {
        if (!in(craft, 0, 4)) return -1;
        if (!in(rank, 0, 9)) return -2;
        if (now.members.size() == 10) return -4;
        record();
        now.members.add(new int[] {craft, rank, 0, 0});
        return now.members.size() - 1;
    }

    int leave(int member) {
        if (!isMember(member)) return -1;
        record();
        return now.members.remove(member)[2];
    }

    int rank(int member, int rank) {
        if (!isMember(member)) return -1;
        if (!in(rank, 0, 9)) return -2;
        record();
        int before = now.members.get(member)[1];
        now.members.get(member)[1] = rank;
        return before;
    }

    int act(int member, int deed) {
        if (!isMember(member) || !in(deed, 0, 5)) return -1;
        record();
        int[] who = now.members.get(member);
        int reason = reason(now.rules, who[0], deed, who[1]);
        if (reason == -6) {
            who[2]++;
            now.done++;
        } else {
            who[3]++;
            now.refusals[reason == 100 ? 5 : now.rules.get(reason)[LAYER]]++;
        }
        return reason;
    }

    int rule(int rule, int what) {
        if (!isRule(rule)) return -1;
        if (!in(what, 0, 7)) return -2;
        int[] told = now.rules.get(rule);
        if (what <= 4) return told[what];
        if (what == 5) return idle(rule) ? 1 : 0;
        int found = 0;
        if (what == 6) {
            for (int[] other : now.rules) found += atOdds(told, other) ? 1 : 0;
        } else {
            for (int i = 0; i < 30; i++) found += fits(told, i / 6, i % 6) ? 1 : 0;
        }
        return found;
    }

    int member(int member, int what) {
        if (!isMember(member)) return -1;
        if (!in(what, 0, 4)) return -2;
        int[] told = now.members.get(member);
        if (what <= 1) return told[what];
        if (what >= 3) return told[what - 1];
        int set = 0;
        for (int deed = 0; deed < 6; deed++) {
            if (reason(now.rules, told[0], deed, told[1]) == -6) set |= 1 << deed;
        }
        return set;
    }

    int allowed(int craft, int deed, int rank, int way) {
        if (!in(craft, 0, 4) || !in(deed, 0, 5)) return -1;
        if (!in(rank, 0, 9) || !in(way, 0, 1)) return -2;
        return reason(now.rules, craft, deed, rank) == -6 ? 1 : 0;
    }

    int why(int craft, int deed, int rank) {
        if (!in(craft, 0, 4) || !in(deed, 0, 5)) return -1;
        if (!in(rank, 0, 9)) return -2;
        return reason(now.rules, craft, deed, rank);
    }

    int count(int what) {
        if (!in(what, 0, 16)) return -2;
        int found = 0;
        if (what == 0) return now.rules.size();
        if (what <= 3) {
            for (int[] rule : now.rules) found += rule[KIND] == what - 1 ? 1 : 0;
            return found;
        }
        if (what == 4) {
            for (int i = 0; i < now.rules.size(); i++) found += idle(i) ? 1 : 0;
            return found;
        }
        if (what == 5) {
            for (int i = 0; i < now.rules.size(); i++) {
                for (int j = i + 1; j < now.rules.size(); j++) found += atOdds(now.rules.get(i), now.rules.get(j)) ? 1 : 0;
            }
            return found;
        }
        if (what == 6) return sum(triples(now.rules));
        if (what == 7) return now.members.size();
        if (what == 8) return now.done;
        if (what <= 14) return now.refusals[what - 9];
        return what == 15 ? pad.length() : history.size();
    }

    int leastRank(int craft, int deed) {
        if (!in(craft, 0, 4) || !in(deed, 0, 5)) return -1;
        for (int rank = 0; rank <= 9; rank++) {
            if (reason(now.rules, craft, deed, rank) == -6) return rank;
        }
        return -6;
    }

    int ifStruck(int rule) {
        if (!isRule(rule)) return -1;
        return 1000 + sum(triples(without(rule))) - sum(triples(now.rules));
    }

    int worstBan() {
        int worst = -6;
        for (int i = now.rules.size() - 1; i >= 0; i--) {
            if (now.rules.get(i)[KIND] == 1 && (worst < 0 || ifStruck(i) >= ifStruck(worst))) worst = i;
        }
        return worst;
    }

    int bestWaiver(int seal) {
        if (!in(seal, 1, 9)) return -2;
        int best = -1;
        int most = -1;
        for (int layer = 4; layer >= 0; layer--) {
            List<int[]> rules = new ArrayList<>(now.rules);
            rules.add(new int[] {layer, 2, 5, 6, seal});
            int triples = sum(triples(rules));
            if (triples > most) {
                most = triples;
                best = layer;
            }
        }
        return best;
    }

    int put(long characters) {
        String added = "";
        long rest = characters;
        while ((rest & 255) != 0) {
            added = (char) (rest & 255) + added;
            rest >>>= 8;
        }
        if (rest != 0 || added.isEmpty()) return -2;
        for (char sign : added.toCharArray()) {
            if (!in(sign, 33, 126)) return -2;
        }
        if (pad.length() + added.length() > 60) return -4;
        pad += added;
        return pad.length();
    }

    int wipe() {
        int before = pad.length();
        pad = "";
        return before;
    }

    /** A start can stand, if some text without a fault begins with it: tried with all ends that a rule may have. */
    int fault() {
        for (int length = 1; length <= pad.length(); length++) {
            if (!canBegin(pad.substring(0, length))) return length - 1;
        }
        return isText(pad) ? -6 : pad.length();
    }

    private static boolean isText(String text) {
        return text.matches("(0p[0-4*][0-5*]|[0-4][bw][0-4*][0-5*][1-9])(;(0p[0-4*][0-5*]|[0-4][bw][0-4*][0-5*][1-9]))*");
    }

    private static boolean canBegin(String start) {
        String[] ends = {"", "1", "01", "001", "b001", "0b001", "0", "00", "p00"};
        for (String end : ends) {
            if (isText(start + end)) return true;
        }
        return false;
    }

    int undo() {
        if (history.isEmpty()) return -5;
        now = history.remove(history.size() - 1);
        return history.size();
    }

    int save(int slot) {
        if (!in(slot, 0, 1)) return -2;
        slots[slot] = now.copy();
        return now.rules.size();
    }

    int restore(int slot) {
        if (!in(slot, 0, 1)) return -2;
        if (slots[slot] == null) return -5;
        record();
        now = slots[slot].copy();
        return now.rules.size();
    }
}
