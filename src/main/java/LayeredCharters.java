/** A guild's charter of layered rules, its members, a pad for texts, undo and two slots. */
public final class LayeredCharters {
    public static final int NO_SUCH = -1, BAD_VALUE = -2, BAD_TEXT = -3, TOO_MANY = -4, NOT_POSSIBLE = -5, NONE = -6;
    public static final int PERMIT = 0, BAN = 1, WAIVER = 2, NOT_PERMITTED = 100;

    private static final int LAYERS = 5, CRAFTS = 5, DEEDS = 6;
    private static final int ALL_CRAFTS = CRAFTS, ALL_DEEDS = DEEDS;
    private static final int LEAST_SEAL = 1, GREATEST_SEAL = 9, GREATEST_RANK = 9;
    private static final int MOST_RULES = 24, MOST_MEMBERS = 10, MOST_SIGNS = 60, MOST_STATES = 6, SLOTS = 2;
    private static final int STRUCK_BASE = 1000;
    private static final int DEEDS_OF_ONE_CRAFT = (1 << DEEDS) - 1;

    private final State now;
    private final Pad pad;
    private final State[] slots;
    private final State[] history;
    private int remembered;
    // Audits change this copy, so that they need not change the charter itself.
    private final Rules trial;

    public LayeredCharters() {
        now = new State();
        pad = new Pad();
        slots = new State[SLOTS];
        history = new State[MOST_STATES];
        remembered = 0;
        trial = new Rules();
    }

    // ---- changes

    public int add(int layer, int kind, int craft, int deed, int seal) {
        if (!isLayer(layer) || !isBetween(craft, 0, ALL_CRAFTS) || !isBetween(deed, 0, ALL_DEEDS)) return NO_SUCH;
        if (!isBetween(kind, PERMIT, WAIVER) || !isSeal(seal)) return BAD_VALUE;
        if (kind == PERMIT && layer != 0) return NOT_POSSIBLE;
        if (now.rules.size >= MOST_RULES) return TOO_MANY;
        remember();
        now.rules.append(layer, kind, craft, deed, seal);
        return now.rules.size - 1;
    }

    public int strike(int rule) {
        if (!now.rules.has(rule)) return NO_SUCH;
        remember();
        now.rules.remove(rule);
        return now.rules.size;
    }

    public int seal(int rule, int seal) {
        if (!now.rules.has(rule)) return NO_SUCH;
        if (!isSeal(seal)) return BAD_VALUE;
        remember();
        int before = now.rules.seals[rule];
        now.rules.seals[rule] = seal;
        return before;
    }

    public int move(int rule, int layer) {
        if (!now.rules.has(rule) || !isLayer(layer)) return NO_SUCH;
        if (now.rules.kinds[rule] == PERMIT && layer != 0) return NOT_POSSIBLE;
        remember();
        int before = now.rules.layers[rule];
        now.rules.layers[rule] = layer;
        return before;
    }

    public int read() {
        if (pad.firstFault() != NONE) return BAD_TEXT;
        if (now.rules.size + pad.rulesInText() > MOST_RULES) return TOO_MANY;
        remember();
        pad.appendTo(now.rules);
        pad.clear();
        return now.rules.size;
    }

    public int tidy() {
        remember();
        for (int struck = 0; struck < MOST_RULES; struck++) {
            // Striking one can make a rule before it idle, so each search begins at the first rule.
            int idle = firstIdle();
            if (idle == NONE) return struck;
            now.rules.remove(idle);
        }
        return MOST_RULES;
    }

    public int join(int craft, int rank) {
        if (!isCraft(craft)) return NO_SUCH;
        if (!isRank(rank)) return BAD_VALUE;
        if (now.guild.size >= MOST_MEMBERS) return TOO_MANY;
        remember();
        now.guild.append(craft, rank);
        return now.guild.size - 1;
    }

    public int leave(int member) {
        if (!now.guild.has(member)) return NO_SUCH;
        remember();
        int done = now.guild.done[member];
        now.guild.remove(member);
        return done;
    }

    public int rank(int member, int rank) {
        if (!now.guild.has(member)) return NO_SUCH;
        if (!isRank(rank)) return BAD_VALUE;
        remember();
        int before = now.guild.ranks[member];
        now.guild.ranks[member] = rank;
        return before;
    }

    public int act(int member, int deed) {
        if (!now.guild.has(member) || !isDeed(deed)) return NO_SUCH;
        remember();
        int reason = now.rules.reason(pairsOf(now.guild.crafts[member], deed), now.guild.ranks[member]);
        if (reason == NONE) {
            now.guild.noteDone(member);
        } else if (now.rules.has(reason)) {
            now.guild.noteRefusal(member, now.rules.layers[reason]);
        } else {
            now.guild.noteRefusal(member, Guild.NO_PERMIT);
        }
        return reason;
    }

    // ---- what there is; nothing changes

    public int rule(int rule, int what) {
        if (!now.rules.has(rule)) return NO_SUCH;
        switch (what) {
            case 0: return now.rules.layers[rule];
            case 1: return now.rules.kinds[rule];
            case 2: return now.rules.crafts[rule];
            case 3: return now.rules.deeds[rule];
            case 4: return now.rules.seals[rule];
            case 5: return isIdle(rule, now.rules.triples()) ? 1 : 0;
            case 6: return now.rules.oddsOf(rule);
            case 7: return Integer.bitCount(now.rules.pairs[rule]);
            default: return BAD_VALUE;
        }
    }

    public int member(int member, int what) {
        if (!now.guild.has(member)) return NO_SUCH;
        switch (what) {
            case 0: return now.guild.crafts[member];
            case 1: return now.guild.ranks[member];
            case 2: return deedsAllowed(now.guild.crafts[member], now.guild.ranks[member]);
            case 3: return now.guild.done[member];
            case 4: return now.guild.refused[member];
            default: return BAD_VALUE;
        }
    }

    public int allowed(int craft, int deed, int rank, int way) {
        if (!isCraft(craft) || !isDeed(deed)) return NO_SUCH;
        if (!isRank(rank) || !isBetween(way, 0, 1)) return BAD_VALUE;
        int pair = pairsOf(craft, deed);
        boolean allowed = way == 0 ? now.rules.allowsByLayers(pair, rank) : now.rules.reason(pair, rank) == NONE;
        return allowed ? 1 : 0;
    }

    public int why(int craft, int deed, int rank) {
        if (!isCraft(craft) || !isDeed(deed)) return NO_SUCH;
        if (!isRank(rank)) return BAD_VALUE;
        return now.rules.reason(pairsOf(craft, deed), rank);
    }

    public int count(int what) {
        switch (what) {
            case 0: return now.rules.size;
            case 1: return now.rules.sizeOfKind(PERMIT);
            case 2: return now.rules.sizeOfKind(BAN);
            case 3: return now.rules.sizeOfKind(WAIVER);
            case 4: return idleRules();
            case 5: return now.rules.oddPairs();
            case 6: return now.rules.triples();
            case 7: return now.guild.size;
            case 8: return now.guild.doneInAll;
            case 9: return now.guild.refusalsOf(0);
            case 10: return now.guild.refusalsOf(1);
            case 11: return now.guild.refusalsOf(2);
            case 12: return now.guild.refusalsOf(3);
            case 13: return now.guild.refusalsOf(4);
            case 14: return now.guild.refusalsOf(Guild.NO_PERMIT);
            case 15: return pad.length;
            case 16: return remembered;
            default: return BAD_VALUE;
        }
    }

    // ---- what if; nothing changes

    public int leastRank(int craft, int deed) {
        if (!isCraft(craft) || !isDeed(deed)) return NO_SUCH;
        return now.rules.leastRankFor(pairsOf(craft, deed));
    }

    public int ifStruck(int rule) {
        if (!now.rules.has(rule)) return NO_SUCH;
        return STRUCK_BASE + triplesWithout(rule) - now.rules.triples();
    }

    public int worstBan() {
        int worst = NONE;
        int most = -1;
        for (int i = 0; i < now.rules.size; i++) {
            if (now.rules.kinds[i] != BAN) continue;
            int triples = triplesWithout(i);
            if (triples > most) {
                most = triples;
                worst = i;
            }
        }
        return worst;
    }

    public int bestWaiver(int seal) {
        if (!isSeal(seal)) return BAD_VALUE;
        int best = 0;
        int most = -1;
        for (int layer = 0; layer < LAYERS; layer++) {
            int triples = triplesWithWaiver(layer, seal);
            if (triples >= most) {
                most = triples;
                best = layer;
            }
        }
        return best;
    }

    // ---- texts

    public int put(long characters) {
        int added = Pad.signsIn(characters);
        if (added == 0) return BAD_VALUE;
        if (pad.length + added > MOST_SIGNS) return TOO_MANY;
        pad.append(characters, added);
        return pad.length;
    }

    public int wipe() {
        int before = pad.length;
        pad.clear();
        return before;
    }

    public int fault() {
        return pad.firstFault();
    }

    // ---- undo, saving

    public int undo() {
        if (!isBetween(remembered, 1, MOST_STATES)) return NOT_POSSIBLE;
        State before = history[remembered - 1];
        if (before == null) return NOT_POSSIBLE;
        now.copyFrom(before);
        remembered--;
        return remembered;
    }

    public int save(int slot) {
        if (!isBetween(slot, 0, SLOTS - 1)) return BAD_VALUE;
        slots[slot] = copyInto(slots[slot]);
        return now.rules.size;
    }

    public int restore(int slot) {
        if (!isBetween(slot, 0, SLOTS - 1)) return BAD_VALUE;
        State saved = slots[slot];
        if (saved == null) return NOT_POSSIBLE;
        remember();
        now.copyFrom(saved);
        return now.rules.size;
    }

    // ---- helpers

    private void remember() {
        if (remembered >= MOST_STATES) dropOldest();
        history[remembered] = copyInto(history[remembered]);
        remembered++;
    }

    /** The dropped state goes to the end, so that the next one to be remembered is written over it. */
    private void dropOldest() {
        State oldest = history[0];
        for (int i = 0; i < MOST_STATES - 1; i++) history[i] = history[i + 1];
        history[MOST_STATES - 1] = oldest;
        remembered = MOST_STATES - 1;
    }

    /** Writes over a state that is there already, because what a run makes is counted. */
    private State copyInto(State place) {
        State copy = place == null ? new State() : place;
        copy.copyFrom(now);
        return copy;
    }

    private int triplesWithout(int rule) {
        trial.copyFrom(now.rules);
        trial.remove(rule);
        return trial.triples();
    }

    private int triplesWithWaiver(int layer, int seal) {
        trial.copyFrom(now.rules);
        trial.append(layer, WAIVER, ALL_CRAFTS, ALL_DEEDS, seal);
        return trial.triples();
    }

    /**
     * Equal numbers of triples are enough, because the loss of a ban can only add some,
     * and that of a permit or a waiver can only take some away.
     */
    private boolean isIdle(int rule, int triples) {
        return triplesWithout(rule) == triples;
    }

    private int firstIdle() {
        int triples = now.rules.triples();
        for (int i = 0; i < now.rules.size; i++) {
            if (isIdle(i, triples)) return i;
        }
        return NONE;
    }

    private int idleRules() {
        int triples = now.rules.triples();
        int idle = 0;
        for (int i = 0; i < now.rules.size; i++) {
            if (isIdle(i, triples)) idle++;
        }
        return idle;
    }

    private int deedsAllowed(int craft, int rank) {
        return (now.rules.allowedPairs(rank) >> (craft * DEEDS)) & DEEDS_OF_ONE_CRAFT;
    }

    private static boolean isBetween(int value, int least, int greatest) {
        return value >= least && value <= greatest;
    }

    private static boolean isLayer(int layer) {
        return isBetween(layer, 0, LAYERS - 1);
    }

    private static boolean isCraft(int craft) {
        return isBetween(craft, 0, CRAFTS - 1);
    }

    private static boolean isDeed(int deed) {
        return isBetween(deed, 0, DEEDS - 1);
    }

    private static boolean isSeal(int seal) {
        return isBetween(seal, LEAST_SEAL, GREATEST_SEAL);
    }

    private static boolean isRank(int rank) {
        return isBetween(rank, 0, GREATEST_RANK);
    }

    /** The pairs of a craft and a deed that are named, a bit each: the deeds of craft 0, those of craft 1, and so on. */
    private static int pairsOf(int craft, int deed) {
        int deeds = deed == ALL_DEEDS ? DEEDS_OF_ONE_CRAFT : 1 << deed;
        if (craft != ALL_CRAFTS) return deeds << (craft * DEEDS);
        int pairs = 0;
        for (int each = 0; each < CRAFTS; each++) pairs |= deeds << (each * DEEDS);
        return pairs;
    }

    private static void closeGap(int[] row, int gap) {
        for (int i = Math.max(gap, 0); i < row.length - 1; i++) row[i] = row[i + 1];
    }

    private static void copyRow(int[] from, int[] to) {
        System.arraycopy(from, 0, to, 0, Math.min(from.length, to.length));
    }

    /** All that undo and the slots bring back. */
    private static final class State {
        final Rules rules = new Rules();
        final Guild guild = new Guild();

        void copyFrom(State other) {
            rules.copyFrom(other.rules);
            guild.copyFrom(other.guild);
        }
    }

    private static final class Rules {
        // One more than the charter may have, for the waiver that bestWaiver tries.
        private static final int PLACES = MOST_RULES + 1;

        final int[] layers = new int[PLACES];
        final int[] kinds = new int[PLACES];
        final int[] crafts = new int[PLACES];
        final int[] deeds = new int[PLACES];
        final int[] seals = new int[PLACES];
        final int[] pairs = new int[PLACES];
        int size = 0;

        void copyFrom(Rules other) {
            copyRow(other.layers, layers);
            copyRow(other.kinds, kinds);
            copyRow(other.crafts, crafts);
            copyRow(other.deeds, deeds);
            copyRow(other.seals, seals);
            copyRow(other.pairs, pairs);
            size = other.size;
        }

        boolean has(int rule) {
            return rule >= 0 && rule < size;
        }

        void append(int layer, int kind, int craft, int deed, int seal) {
            if (size >= PLACES) return;
            layers[size] = layer;
            kinds[size] = kind;
            crafts[size] = craft;
            deeds[size] = deed;
            seals[size] = seal;
            pairs[size] = pairsOf(craft, deed);
            size++;
        }

        void remove(int rule) {
            if (!has(rule)) return;
            closeGap(layers, rule);
            closeGap(kinds, rule);
            closeGap(crafts, rule);
            closeGap(deeds, rule);
            closeGap(seals, rule);
            closeGap(pairs, rule);
            size--;
        }

        int sizeOfKind(int kind) {
            int found = 0;
            for (int i = 0; i < size; i++) {
                if (kinds[i] == kind) found++;
            }
            return found;
        }

        int oddsOf(int rule) {
            int odds = 0;
            for (int i = 0; i < size; i++) {
                if (areAtOdds(rule, i)) odds++;
            }
            return odds;
        }

        int oddPairs() {
            int odds = 0;
            for (int i = 0; i < size; i++) {
                if (kinds[i] == BAN) odds += oddsOf(i);
            }
            return odds;
        }

        private boolean areAtOdds(int one, int other) {
            return (kinds[one] == BAN) != (kinds[other] == BAN) && (pairs[one] & pairs[other]) != 0;
        }

        /** Why a pair is not allowed: the second way, by going through all bans. */
        int reason(int pair, int rank) {
            if ((permittedPairs() & pair) == 0) return NOT_PERMITTED;
            int reason = NONE;
            int outermost = LAYERS;
            for (int i = 0; i < size; i++) {
                if (kinds[i] != BAN || rank >= seals[i] || layers[i] >= outermost) continue;
                if ((heldPairs(i) & pair) != 0) {
                    reason = i;
                    outermost = layers[i];
                }
            }
            return reason;
        }

        /** Whether a pair is allowed: the first way, with the strongest waiver of the layers so far. */
        boolean allowsByLayers(int pair, int rank) {
            if ((permittedPairs() & pair) == 0) return false;
            int waived = 0;
            for (int layer = 0; layer < LAYERS; layer++) {
                waived = Math.max(waived, strongest(WAIVER, layer, pair));
                if (strongest(BAN, layer, pair) > Math.max(waived, rank)) return false;
            }
            return true;
        }

        private int strongest(int kind, int layer, int pair) {
            int strongest = 0;
            for (int i = 0; i < size; i++) {
                if (kinds[i] == kind && layers[i] == layer && (pairs[i] & pair) != 0) {
                    strongest = Math.max(strongest, seals[i]);
                }
            }
            return strongest;
        }

        int allowedPairs(int rank) {
            int allowed = permittedPairs();
            for (int seal = GREATEST_SEAL; seal > rank; seal--) allowed &= ~heldPairsOfSeal(seal);
            return allowed;
        }

        /** How many triples are allowed, told from the greatest rank, which no seal is above, downwards. */
        int triples() {
            int allowed = permittedPairs();
            int triples = Integer.bitCount(allowed);
            for (int seal = GREATEST_SEAL; seal >= LEAST_SEAL; seal--) {
                allowed &= ~heldPairsOfSeal(seal);
                triples += Integer.bitCount(allowed);
            }
            return triples;
        }

        int leastRankFor(int pair) {
            if ((permittedPairs() & pair) == 0) return NONE;
            for (int seal = GREATEST_SEAL; seal >= LEAST_SEAL; seal--) {
                if ((heldPairsOfSeal(seal) & pair) != 0) return seal;
            }
            return 0;
        }

        private int permittedPairs() {
            int permitted = 0;
            for (int i = 0; i < size; i++) {
                if (kinds[i] == PERMIT) permitted |= pairs[i];
            }
            return permitted;
        }

        /** The pairs for which a ban with this seal holds, if the rank is below it. */
        private int heldPairsOfSeal(int seal) {
            int held = 0;
            for (int i = 0; i < size; i++) {
                if (kinds[i] == BAN && seals[i] == seal) held |= heldPairs(i);
            }
            return held;
        }

        private int heldPairs(int ban) {
            int held = pairs[ban];
            for (int i = 0; i < size; i++) {
                if (lifts(i, ban)) held &= ~pairs[i];
            }
            return held;
        }

        private boolean lifts(int rule, int ban) {
            return kinds[rule] == WAIVER && layers[rule] <= layers[ban] && seals[rule] >= seals[ban];
        }
    }

    private static final class Guild {
        // Refusals for lack of a permit are counted behind those by the bans of the layers.
        static final int NO_PERMIT = LAYERS;

        final int[] crafts = new int[MOST_MEMBERS];
        final int[] ranks = new int[MOST_MEMBERS];
        final int[] done = new int[MOST_MEMBERS];
        final int[] refused = new int[MOST_MEMBERS];
        final int[] refusals = new int[LAYERS + 1];
        int size = 0;
        int doneInAll = 0;

        void copyFrom(Guild other) {
            copyRow(other.crafts, crafts);
            copyRow(other.ranks, ranks);
            copyRow(other.done, done);
            copyRow(other.refused, refused);
            copyRow(other.refusals, refusals);
            size = other.size;
            doneInAll = other.doneInAll;
        }

        boolean has(int member) {
            return member >= 0 && member < size;
        }

        void append(int craft, int rank) {
            if (size >= MOST_MEMBERS) return;
            crafts[size] = craft;
            ranks[size] = rank;
            done[size] = 0;
            refused[size] = 0;
            size++;
        }

        void remove(int member) {
            if (!has(member)) return;
            closeGap(crafts, member);
            closeGap(ranks, member);
            closeGap(done, member);
            closeGap(refused, member);
            size--;
        }

        void noteDone(int member) {
            if (!has(member)) return;
            done[member]++;
            doneInAll++;
        }

        void noteRefusal(int member, int cause) {
            if (!has(member) || !isBetween(cause, 0, NO_PERMIT)) return;
            refused[member]++;
            refusals[cause]++;
        }

        int refusalsOf(int cause) {
            return isBetween(cause, 0, NO_PERMIT) ? refusals[cause] : 0;
        }
    }

    private static final class Pad {
        // What stands at a place of a rule's text, in its order.
        private static final int LAYER = 0, KIND = 1, CRAFT = 2, DEED = 3, SEAL = 4, SEPARATOR = 5;
        private static final int MOST_AT_ONCE = 8, BITS = 8, ONE_SIGN = 255, LEAST_CODE = 33, GREATEST_CODE = 126;

        private final char[] signs = new char[MOST_SIGNS];
        int length = 0;

        /** How many characters the number has; 0 if it is none that may be appended. */
        static int signsIn(long characters) {
            long rest = characters;
            for (int found = 0; found < MOST_AT_ONCE; found++) {
                if (rest == 0) return found;
                if (!isBetween((int) (rest & ONE_SIGN), LEAST_CODE, GREATEST_CODE)) return 0;
                rest >>>= BITS;
            }
            return MOST_AT_ONCE;
        }

        void append(long characters, int added) {
            for (int i = added - 1; i >= 0 && length < MOST_SIGNS; i--) {
                signs[length] = (char) ((characters >>> (i * BITS)) & ONE_SIGN);
                length++;
            }
        }

        void clear() {
            length = 0;
        }

        int firstFault() {
            int place = LAYER;
            for (int i = 0; i < length; i++) {
                if (!canStand(place, i)) return i;
                place = placeAfter(place, i);
            }
            return place == SEPARATOR ? NONE : length;
        }

        private boolean canStand(int place, int index) {
            char sign = signAt(index);
            switch (place) {
                case LAYER: return isBetween(sign, '0', '4');
                case KIND: return sign == 'b' || sign == 'w' || sign == 'p' && signAt(index - 1) == '0';
                case CRAFT: return sign == '*' || isBetween(sign, '0', '4');
                case DEED: return sign == '*' || isBetween(sign, '0', '5');
                case SEAL: return isBetween(sign, '1', '9');
                default: return sign == ';';
            }
        }

        private int placeAfter(int place, int index) {
            if (place == SEPARATOR) return LAYER;
            boolean endsPermit = place == DEED && signAt(index - 2) == 'p';
            return endsPermit ? SEPARATOR : place + 1;
        }

        private char signAt(int index) {
            return index >= 0 && index < length ? signs[index] : 0;
        }

        /** Of a text without a fault. */
        int rulesInText() {
            int rules = 1;
            for (int i = 0; i < length; i++) {
                if (signs[i] == ';') rules++;
            }
            return rules;
        }

        /** Appends the rules of a text without a fault. */
        void appendTo(Rules rules) {
            int start = 0;
            while (start < length) {
                int kind = kindOf(signAt(start + KIND));
                int craft = numberOf(signAt(start + CRAFT), ALL_CRAFTS);
                int deed = numberOf(signAt(start + DEED), ALL_DEEDS);
                int seal = kind == PERMIT ? LEAST_SEAL : signAt(start + SEAL) - '0';
                rules.append(signAt(start) - '0', kind, craft, deed, seal);
                start += kind == PERMIT ? SEPARATOR : SEPARATOR + 1;
            }
        }

        private static int kindOf(char sign) {
            return sign == 'p' ? PERMIT : sign == 'b' ? BAN : WAIVER;
        }

        private static int numberOf(char sign, int all) {
            return sign == '*' ? all : sign - '0';
        }
    }
}
