/** Senders whose powers are to give each the share it wants; ../shared/DOC.md tells the promises. */
public final class PowerShares {
    public static final int NONE = -1, BAD = -2, NOT = -3, FULL = -4;

    private static final int NULL = 1, INDEX = 2, CAST = 3, STORE = 4, SIZE = 5;
    private static final int SHEETS = 4;
    private static final int FORMS = 3;
    private static final int LEAST_INT = 1 << 31;
    private static final long LEAST_LONG = 1L << 63;

    private final Senders told;
    private final Laws laws;
    private final Walk walk;
    private final Text text;
    private final Sheet[] sheets;
    private int latestFinding;

    public PowerShares() {
        told = new Senders();
        laws = new Laws(told);
        walk = new Walk(told);
        text = new Text();
        sheets = new Sheet[SHEETS];
        for (int s = 0; s < SHEETS; s++) {
            sheets[s] = new Sheet();
        }
        latestFinding = 0;
    }

    // ---- what is told

    public int senders(int n) {
        if (n < 1 || n > Senders.MOST) {
            return BAD;
        }
        int was = told.many;
        told.many = n;
        return was;
    }

    public int gain(int i, int j, int v) {
        if (!told.isThere(i) || !told.isThere(j) || !Senders.mayBeGain(i, j, v)) {
            return BAD;
        }
        int was = told.gainOf(i, j);
        told.tellGain(i, j, v);
        return was;
    }

    public int set(int i, int what, int v) {
        if (!told.isThere(i)) {
            return BAD;
        }
        switch (what) {
            case 0:
                return exchange(told.wishes, i, v, 1, 20);
            case 1:
                return exchange(told.noises, i, v, 0, 9);
            case 2:
                return exchange(told.caps, i, v, 0, 999);
            default:
                return BAD;
        }
    }

    public int on(int i) {
        if (!told.isThere(i)) {
            return BAD;
        }
        told.onBits ^= 1 << i;
        return told.onSet();
    }

    public int power(int i, int v) {
        return told.isThere(i) ? exchange(told.powers, i, v, 0, 999) : BAD;
    }

    public int rule(int v) {
        if (v < 0 || v > 2) {
            return BAD;
        }
        int was = walk.ruleNumber;
        walk.ruleNumber = v;
        return was;
    }

    public int type(int b) {
        if (b < 0 || b > 255) {
            return BAD;
        }
        return text.append(b) ? text.length : FULL;
    }

    public int wipe() {
        int had = text.length;
        text.length = 0;
        return had;
    }

    public int fault() {
        return text.firstWrong(told.many);
    }

    public int read(int s) {
        int refusal = refusalOfSheet(s);
        return refusal != 0 ? refusal : readGains(sheets[s]);
    }

    public int info(int i, int what) {
        if (!told.isThere(i)) {
            return BAD;
        }
        switch (what) {
            case 0:
                return told.wishes[i];
            case 1:
                return told.noises[i];
            case 2:
                return told.caps[i];
            case 3:
                return told.isOn(i) ? 1 : 0;
            case 4:
                return told.powers[i];
            case 5:
                return told.needOf(i, told.powers);
            case 6:
                return told.isContent(i) ? 1 : 0;
            case 7:
                return told.gainOf(i, i);
            default:
                return BAD;
        }
    }

    public int heard(int i, int j) {
        return told.isThere(i) && told.isThere(j) ? told.gainOf(i, j) : BAD;
    }

    // ---- exactly

    public long minor(int set) {
        if (set < 0 || set > told.allBits()) {
            return asLong(BAD);
        }
        laws.buildAsTold();
        return laws.minorOf(set & told.onSet());
    }

    public int feasible() {
        laws.buildAsTold();
        return laws.holdFor(told.onSet()) ? 1 : 0;
    }

    public long least(int i, int what) {
        if (!told.isThere(i) || what < 0 || what > 1) {
            return asLong(BAD);
        }
        if (!told.isOn(i)) {
            return asLong(NOT);
        }
        int set = told.onSet();
        laws.buildAsTold();
        if (!laws.holdFor(set)) {
            return asLong(NOT);
        }
        long below = laws.minorOf(set);
        laws.replaceColumnByNoise(i);
        return lowestTerm(laws.minorOf(set), below, what);
    }

    public int witness() {
        laws.buildAsTold();
        return laws.fewestTooMany(told.onSet());
    }

    public int out() {
        laws.buildAsTold();
        return laws.fewestToLeave(told.onSet());
    }

    public int admitted() {
        laws.buildAsTold();
        return laws.comeIn(told.onSet());
    }

    public int softer() {
        return laws.whoseWishLess(told.onSet());
    }

    public int margin() {
        return laws.greatestQuarters(told.onSet());
    }

    public long share(int i, int what) {
        if (!told.isThere(i) || what < 0 || what > 1) {
            return asLong(BAD);
        }
        int below = told.othersAndNoise(i, told.powers);
        if (!told.isOn(i) || below == 0) {
            return asLong(NOT);
        }
        return lowestTerm((long) told.gainOf(i, i) * told.powers[i], below, what);
    }

    // ---- step by step

    public int step(int i) {
        if (!told.isThere(i)) {
            return BAD;
        }
        if (!told.isOn(i)) {
            return NOT;
        }
        told.powers[i] = walk.stepOf(i, told.powers);
        return told.powers[i];
    }

    public int turn() {
        return walk.takeTurn(told.powers);
    }

    public int order() {
        return text.firstWrong(told.many) == NONE ? stepsOfText() : 0;
    }

    public int still() {
        return walk.settle();
    }

    public int rest(int i) {
        if (!told.isThere(i)) {
            return BAD;
        }
        walk.settle();
        return walk.trial[i];
    }

    public int met() {
        return told.contentSet();
    }

    // ---- sheets

    public int sheet(int s, int form, int n) {
        if (!isSheet(s) || !isForm(form) || n > Sheet.MOST) {
            return BAD;
        }
        if (n < 0) {
            return finding(SIZE);
        }
        sheets[s].renew(form, n);
        return n;
    }

    public int lose(int s) {
        int refusal = refusalOfSheet(s);
        if (refusal != 0) {
            return refusal;
        }
        int had = sheets[s].size;
        sheets[s].size = Sheet.LOST;
        return had;
    }

    public int put(int s, int form, int i, int v) {
        int refusal = refusalOfItem(s, form, i);
        if (refusal != 0) {
            return refusal;
        }
        sheets[s].store(i, v);
        return 1;
    }

    public int get(int s, int form, int i) {
        return refusalOfItem(s, form, i) != 0 ? LEAST_INT : sheets[s].items[i];
    }

    public int copy(int s, int i, int t, int j, int n) {
        if (!isSheet(s) || !isSheet(t)) {
            return BAD;
        }
        Sheet from = sheets[s];
        Sheet to = sheets[t];
        if (from.isLost() || to.isLost()) {
            return finding(NULL);
        }
        if (from.form != to.form) {
            return finding(STORE);
        }
        if (!from.hasRange(i, n) || !to.hasRange(j, n)) {
            return finding(INDEX);
        }
        System.arraycopy(from.items, i, to.items, j, n);
        return 1;
    }

    public int write(int s) {
        int refusal = refusalOfSheet(s);
        if (refusal != 0) {
            return refusal;
        }
        walk.settle();
        int many = Math.min(sheets[s].size, told.many);
        for (int i = 0; i < many; i++) {
            sheets[s].store(i, walk.trial[i]);
        }
        return many;
    }

    public int count(int what) {
        switch (what) {
            case 0:
                return told.many;
            case 1:
                return Integer.bitCount(told.onSet());
            case 2:
                return Integer.bitCount(told.contentSet());
            case 3:
                return told.sumOfPowers();
            case 4:
                return Integer.bitCount(out());
            case 5:
                return Integer.bitCount(admitted());
            case 6:
                return text.length;
            case 7:
                return walk.settle();
            case 8:
                return latestFinding;
            default:
                return BAD;
        }
    }

    public long digest() {
        long h = 17;
        for (int what = 0; what <= 6; what++) {
            h = 31 * h + count(what);
        }
        // the trial powers stay as REST through all that follows, so one walk serves every sender
        h = 31 * h + walk.settle();
        h = 31 * h + fault();
        h = 31 * h + feasible();
        h = 31 * h + witness();
        h = 31 * h + out();
        h = 31 * h + admitted();
        h = 31 * h + softer();
        h = 31 * h + margin();
        h = 31 * h + met();
        for (int i = 0; i < told.many; i++) {
            h = digestSender(h, i);
        }
        for (int set = 0; set <= told.allBits(); set++) {
            h = 31 * h + minor(set);
        }
        return h;
    }

    private long digestSender(long before, int i) {
        long h = before;
        for (int what = 0; what <= 7; what++) {
            h = 31 * h + info(i, what);
        }
        h = 31 * h + least(i, 0);
        h = 31 * h + least(i, 1);
        h = 31 * h + share(i, 0);
        h = 31 * h + share(i, 1);
        h = 31 * h + walk.trial[i];
        for (int j = 0; j < told.many; j++) {
            h = 31 * h + told.gainOf(i, j);
        }
        return h;
    }

    private int readGains(Sheet from) {
        int k = 0;
        for (int i = 0; i < told.many; i++) {
            for (int j = 0; j < told.many; j++) {
                if (k >= from.size || !Senders.mayBeGain(i, j, from.items[k])) {
                    return k;
                }
                told.tellGain(i, j, from.items[k]);
                k++;
            }
        }
        return k;
    }

    private int stepsOfText() {
        int changed = 0;
        for (int k = 0; k < text.length; k++) {
            int i = text.bytes[k] - Text.FIRST_LETTER;
            int was = told.powers[i];
            if (told.isOn(i) && step(i) != was) {
                changed++;
            }
        }
        return changed;
    }

    private int refusalOfSheet(int s) {
        if (!isSheet(s)) {
            return BAD;
        }
        return sheets[s].isLost() ? finding(NULL) : 0;
    }

    private int refusalOfItem(int s, int form, int i) {
        if (!isSheet(s) || !isForm(form)) {
            return BAD;
        }
        if (sheets[s].isLost()) {
            return finding(NULL);
        }
        if (sheets[s].form != form) {
            return finding(CAST);
        }
        return sheets[s].hasRange(i, 1) ? 0 : finding(INDEX);
    }

    private int finding(int number) {
        latestFinding = number;
        return -10 - number;
    }

    private static boolean isSheet(int s) {
        return s >= 0 && s < SHEETS;
    }

    private static boolean isForm(int form) {
        return form >= 0 && form < FORMS;
    }

    private static int exchange(int[] row, int i, int v, int low, int high) {
        if (v < low || v > high) {
            return BAD;
        }
        int was = row[i];
        row[i] = v;
        return was;
    }

    private static long asLong(int refusal) {
        return LEAST_LONG - refusal;
    }

    private static long lowestTerm(long above, long below, int what) {
        // of 0 and below the common divisor is below, so 0 comes out as 0 by 1
        long divisor = commonDivisor(above, below);
        return (what == 0 ? above : below) / divisor;
    }

    private static long commonDivisor(long a, long b) {
        long greater = a;
        long less = b;
        // Euclid needs fewer than 100 rounds for any two longs
        for (int round = 0; round < 100 && less != 0; round++) {
            long left = greater % less;
            greater = less;
            less = left;
        }
        return Math.max(greater, 1);
    }

    /** All that is told of senders, and what follows from it and any row of powers. */
    private static final class Senders {
        static final int MOST = 5;

        int many;
        int onBits;
        final int[] gains;
        final int[] wishes;
        final int[] noises;
        final int[] caps;
        final int[] powers;

        Senders() {
            many = 3;
            onBits = (1 << MOST) - 1;
            gains = new int[MOST * MOST];
            wishes = new int[MOST];
            noises = new int[MOST];
            caps = new int[MOST];
            powers = new int[MOST];
            for (int i = 0; i < MOST; i++) {
                for (int j = 0; j < MOST; j++) {
                    gains[i * MOST + j] = i == j ? 10 : 1;
                }
                wishes[i] = 5;
                noises[i] = 1;
                caps[i] = 100;
            }
        }

        static boolean mayBeGain(int i, int j, int v) {
            return i == j ? v >= 1 && v <= 30 : v >= 0 && v <= 9;
        }

        boolean isThere(int i) {
            return i >= 0 && i < many;
        }

        int allBits() {
            return (1 << many) - 1;
        }

        int onSet() {
            return onBits & allBits();
        }

        boolean isOn(int i) {
            return (onBits >> i & 1) == 1;
        }

        int gainOf(int i, int j) {
            return gains[i * MOST + j];
        }

        void tellGain(int i, int j, int v) {
            gains[i * MOST + j] = v;
        }

        int othersAndNoise(int i, int[] row) {
            // the innermost loop of every walk: it calls nothing, so that calls stay few deep
            int sum = noises[i];
            for (int j = 0; j < many; j++) {
                if (j != i && (onBits >> j & 1) == 1) {
                    sum += gains[i * MOST + j] * row[j];
                }
            }
            return sum;
        }

        int needOf(int i, int[] row) {
            int unit = 10 * gainOf(i, i);
            // an OWN gain is 1 at least; the test keeps the division safe by its own lines
            return unit <= 0 ? 0 : (wishes[i] * othersAndNoise(i, row) + unit - 1) / unit;
        }

        boolean isContent(int i) {
            return isOn(i) && 10 * gainOf(i, i) * powers[i] >= wishes[i] * othersAndNoise(i, powers);
        }

        int contentSet() {
            int set = 0;
            for (int i = 0; i < many; i++) {
                if (isContent(i)) {
                    set |= 1 << i;
                }
            }
            return set;
        }

        int sumOfPowers() {
            int sum = 0;
            for (int i = 0; i < many; i++) {
                if (isOn(i)) {
                    sum += powers[i];
                }
            }
            return sum;
        }
    }

    /** The square of LAWS and its minors; it is built anew before each question. */
    private static final class Laws {
        private final Senders told;
        private final long[] square;
        private final long[] partial;
        private final int[] members;

        Laws(Senders told) {
            this.told = told;
            square = new long[Senders.MOST * Senders.MOST];
            partial = new long[1 << Senders.MOST];
            members = new int[Senders.MOST];
        }

        void buildAsTold() {
            build(1, 1, NONE);
        }

        private void build(int ownTimes, int wishTimes, int softened) {
            for (int i = 0; i < told.many; i++) {
                int wish = told.wishes[i];
                if (i == softened) {
                    wish = Math.max(wish - 1, 1);
                }
                for (int j = 0; j < told.many; j++) {
                    square[i * Senders.MOST + j] = i == j
                            ? 10L * told.gainOf(i, i) * ownTimes
                            : -(long) wish * wishTimes * told.gainOf(i, j);
                }
            }
        }

        /** For Cramer's rule. */
        void replaceColumnByNoise(int column) {
            for (int i = 0; i < told.many; i++) {
                square[i * Senders.MOST + column] = (long) told.wishes[i] * told.noises[i];
            }
        }

        long minorOf(int set) {
            return partial[(1 << expand(set)) - 1];
        }

        boolean holdFor(int set) {
            int size = expand(set);
            for (int first = 1; first <= size; first++) {
                if (partial[(1 << first) - 1] <= 0) {
                    return false;
                }
            }
            return true;
        }

        /**
         * Partial determinants: at a mask of columns, of as many first rows of the set.
         * So the leading minors stand at the masks of the first columns, and nothing is made anew.
         */
        private int expand(int set) {
            int size = listMembers(set);
            partial[0] = 1;
            for (int mask = 1; mask < 1 << size; mask++) {
                partial[mask] = expandRow(members[Integer.bitCount(mask) - 1], mask, size);
            }
            return size;
        }

        private long expandRow(int row, int mask, int size) {
            long sum = 0;
            long sign = 1;
            for (int c = size - 1; c >= 0; c--) {
                if ((mask >> c & 1) == 1) {
                    sum += sign * square[row * Senders.MOST + members[c]] * partial[mask ^ 1 << c];
                    sign = -sign;
                }
            }
            return sum;
        }

        private int listMembers(int set) {
            int size = 0;
            for (int i = 0; i < told.many; i++) {
                if ((set >> i & 1) == 1) {
                    members[size] = i;
                    size++;
                }
            }
            return size;
        }

        int fewestTooMany(int all) {
            int best = 0;
            int fewest = Senders.MOST + 1;
            for (int set = 1; set <= all; set++) {
                int size = Integer.bitCount(set);
                if ((set & ~all) == 0 && size < fewest && !holdFor(set)) {
                    best = set;
                    fewest = size;
                }
            }
            return best;
        }

        int fewestToLeave(int all) {
            int best = all;
            for (int set = 0; set < all; set++) {
                boolean fewer = Integer.bitCount(set) < Integer.bitCount(best);
                if ((set & ~all) == 0 && fewer && holdFor(all & ~set)) {
                    best = set;
                }
            }
            return best;
        }

        int comeIn(int all) {
            int in = 0;
            for (int i = 0; i < told.many; i++) {
                int more = in | 1 << i;
                if ((all >> i & 1) == 1 && holdFor(more)) {
                    in = more;
                }
            }
            return in;
        }

        int whoseWishLess(int all) {
            buildAsTold();
            if (holdFor(all)) {
                return NONE;
            }
            for (int i = 0; i < told.many; i++) {
                build(1, 1, i);
                if ((all >> i & 1) == 1 && holdFor(all)) {
                    return i;
                }
            }
            return NONE;
        }

        int greatestQuarters(int all) {
            for (int t = 8; t > 0; t--) {
                build(4, t, NONE);
                if (holdFor(all)) {
                    return t;
                }
            }
            return 0;
        }
    }

    /** Turns by the rule, on the powers that are kept or on a trial of them. */
    private static final class Walk {
        private static final int MOST_TURNS = 200;

        int ruleNumber;
        final int[] trial;
        private final Senders told;
        private final int[] next;

        Walk(Senders told) {
            this.told = told;
            ruleNumber = 0;
            trial = new int[Senders.MOST];
            next = new int[Senders.MOST];
        }

        int stepOf(int i, int[] row) {
            return Math.min(told.needOf(i, row), told.caps[i]);
        }

        int takeTurn(int[] row) {
            int changed = 0;
            for (int i = 0; i < told.many; i++) {
                next[i] = goalOf(i, row);
                if (next[i] != row[i]) {
                    changed++;
                }
                // by RULE 1 those behind hear the new power at once
                if (ruleNumber == 1) {
                    row[i] = next[i];
                }
            }
            System.arraycopy(next, 0, row, 0, told.many);
            return changed;
        }

        private int goalOf(int i, int[] row) {
            if (!told.isOn(i)) {
                return row[i];
            }
            int goal = stepOf(i, row);
            return ruleNumber == 2 ? (row[i] + goal + 1) / 2 : goal;
        }

        /** STILL; the trial row holds REST then. */
        int settle() {
            System.arraycopy(told.powers, 0, trial, 0, Senders.MOST);
            for (int turns = 0; turns < MOST_TURNS; turns++) {
                if (takeTurn(trial) == 0) {
                    return turns;
                }
            }
            return wouldMove(trial) ? NONE : MOST_TURNS;
        }

        private boolean wouldMove(int[] row) {
            for (int i = 0; i < told.many; i++) {
                if (goalOf(i, row) != row[i]) {
                    return true;
                }
            }
            return false;
        }
    }

    /** THE ORDER. */
    private static final class Text {
        static final int FIRST_LETTER = 97;
        private static final int MOST = 12;

        int length;
        final int[] bytes;

        Text() {
            length = 0;
            bytes = new int[MOST];
        }

        boolean append(int b) {
            if (length >= MOST) {
                return false;
            }
            bytes[length] = b;
            length++;
            return true;
        }

        int firstWrong(int many) {
            for (int k = 0; k < length; k++) {
                int i = bytes[k] - FIRST_LETTER;
                if (i < 0 || i >= many) {
                    return k;
                }
            }
            return NONE;
        }
    }

    /** A row that is used again: items are kept as ints, cut to their form when they are stored. */
    private static final class Sheet {
        static final int MOST = 60;
        static final int LOST = -1;

        int form;
        int size;
        final int[] items;

        Sheet() {
            form = 0;
            size = LOST;
            items = new int[MOST];
        }

        boolean isLost() {
            return size == LOST;
        }

        void renew(int newForm, int newSize) {
            form = newForm;
            size = newSize;
            for (int i = 0; i < MOST; i++) {
                items[i] = 0;
            }
        }

        boolean hasRange(int from, int many) {
            return from >= 0 && many >= 0 && many <= size && from <= size - many;
        }

        void store(int i, int v) {
            switch (form) {
                case 0:
                    items[i] = (byte) v;
                    break;
                case 1:
                    items[i] = (short) v;
                    break;
                default:
                    items[i] = v;
            }
        }
    }
}
