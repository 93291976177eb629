import java.math.BigInteger;
import java.util.ArrayList;
import java.util.Arrays;
import java.util.List;
import java.util.Random;

/**
 * Random runs of calls, each answered by PowerShares and by a model that is written another way:
 * determinants by permutations, least powers by elimination over fractions, needs by halving,
 * sheets as real rows on which Java itself throws. The seeds are fixed, so every run is the same.
 */
public final class ModelTest {
    private static final int RUNS = 400;
    private static final int CALLS = 512;
    private static final int CALL_KINDS = 36;

    private static int wrong = 0;

    public static void main(String[] args) {
        long[] used = new long[CALL_KINDS];
        for (int run = 0; run < RUNS && wrong < 20; run++) {
            oneRun(run, used);
        }
        for (int kind = 1; kind < CALL_KINDS; kind++) {
            if (wrong == 0 && used[kind] < 100) {
                wrong++;
                System.out.println("call kind " + kind + " was made only " + used[kind] + " times");
            }
        }
        System.out.println(wrong == 0 ? "model: all answers are as due" : "model: " + wrong + " answers are not as due");
        if (wrong != 0) {
            System.exit(1);
        }
    }

    private static void oneRun(int run, long[] used) {
        Random random = new Random(7700 + run);
        PowerShares real = new PowerShares();
        Model model = new Model();
        Caller caller = new Caller(random, run % 4);
        List<String> told = new ArrayList<>();
        for (int k = 0; k < CALLS; k++) {
            caller.choose(model);
            used[caller.kind]++;
            long due = model.answer(caller.kind, caller.a);
            long got = real(real, caller.kind, caller.a);
            told.add(caller.kind + Arrays.toString(caller.a) + " -> " + got);
            if (got != due) {
                wrong++;
                System.out.println("run " + run + " call " + k + ": kind " + caller.kind + " "
                        + Arrays.toString(caller.a) + " answered " + got + ", due is " + due);
                System.out.println("  behind " + told.subList(Math.max(0, told.size() - 12), told.size()));
                return;
            }
        }
    }

    private static long real(PowerShares x, int kind, int[] a) {
        switch (kind) {
            case 1: return x.senders(a[0]);
            case 2: return x.gain(a[0], a[1], a[2]);
            case 3: return x.set(a[0], a[1], a[2]);
            case 4: return x.on(a[0]);
            case 5: return x.power(a[0], a[1]);
            case 6: return x.rule(a[0]);
            case 7: return x.type(a[0]);
            case 8: return x.wipe();
            case 9: return x.fault();
            case 10: return x.read(a[0]);
            case 11: return x.info(a[0], a[1]);
            case 12: return x.heard(a[0], a[1]);
            case 13: return x.minor(a[0]);
            case 14: return x.feasible();
            case 15: return x.least(a[0], a[1]);
            case 16: return x.witness();
            case 17: return x.out();
            case 18: return x.admitted();
            case 19: return x.softer();
            case 20: return x.margin();
            case 21: return x.share(a[0], a[1]);
            case 22: return x.step(a[0]);
            case 23: return x.turn();
            case 24: return x.order();
            case 25: return x.still();
            case 26: return x.rest(a[0]);
            case 27: return x.met();
            case 28: return x.sheet(a[0], a[1], a[2]);
            case 29: return x.lose(a[0]);
            case 30: return x.put(a[0], a[1], a[2], a[3]);
            case 31: return x.get(a[0], a[1], a[2]);
            case 32: return x.copy(a[0], a[1], a[2], a[3], a[4]);
            case 33: return x.write(a[0]);
            case 34: return x.count(a[0]);
            default: return x.digest();
        }
    }

    /** Chooses calls, mostly sound ones, with the edges more often than their share. */
    private static final class Caller {
        private static final int[] FAR = {Integer.MIN_VALUE, Integer.MAX_VALUE, -1, -2, -11, 5, 6, 61, 256, 1000, 1 << 16};

        final Random random;
        final int mood;
        int kind;
        int[] a;

        Caller(Random random, int mood) {
            this.random = random;
            this.mood = mood;
        }

        private int upTo(int low, int high) {
            int dice = random.nextInt(40);
            if (dice == 0) {
                return low - 1;
            }
            if (dice == 1) {
                return high + 1;
            }
            if (dice == 2) {
                return FAR[random.nextInt(FAR.length)];
            }
            if (dice == 3) {
                return low;
            }
            if (dice == 4) {
                return high;
            }
            return low + random.nextInt(high - low + 1);
        }

        void choose(Model m) {
            kind = 1 + random.nextInt(CALL_KINDS - 1);
            if (kind == 1 && random.nextInt(4) != 0) {
                kind = 2;
            }
            int top = m.n - 1;
            a = new int[0];
            switch (kind) {
                case 1: a = new int[] {random.nextBoolean() ? upTo(1, 5) : 5}; break;
                case 2: a = gainCall(top); break;
                case 3: a = setCall(top); break;
                case 4: a = new int[] {upTo(0, top)}; break;
                case 5: a = new int[] {upTo(0, top), random.nextInt(3) == 0 ? upTo(0, 999) : upTo(0, 20)}; break;
                case 6: a = new int[] {upTo(0, 2)}; break;
                case 7: a = new int[] {random.nextInt(30) == 0 ? upTo(0, 255) : upTo(97, 97 + top)}; break;
                case 8: if (random.nextInt(3) != 0) kind = 24; break;
                case 10: case 29: case 33: a = new int[] {upTo(0, 3)}; break;
                case 11: a = new int[] {upTo(0, top), upTo(0, 7)}; break;
                case 12: a = new int[] {upTo(0, top), upTo(0, top)}; break;
                case 13: a = new int[] {upTo(0, (1 << m.n) - 1)}; break;
                case 15: case 21: a = new int[] {upTo(0, top), upTo(0, 1)}; break;
                case 22: case 26: a = new int[] {upTo(0, top)}; break;
                case 28: a = new int[] {upTo(0, 3), upTo(0, 2), upTo(0, random.nextBoolean() ? 60 : 6)}; break;
                case 30: a = new int[] {upTo(0, 3), form(m), item(m), itemValue()}; break;
                case 31: a = new int[] {upTo(0, 3), form(m), item(m)}; break;
                case 32: a = new int[] {upTo(0, 3), item(m), upTo(0, 3), item(m), upTo(0, 8)}; break;
                case 34: a = new int[] {upTo(0, 8)}; break;
                default: break;
            }
            if (kind == 30 || kind == 31) {
                if (random.nextInt(6) != 0 && a[0] >= 0 && a[0] < 4 && m.sheets[a[0]] != null) {
                    a[1] = Model.formOf(m.sheets[a[0]]);
                }
            }
        }

        private int[] gainCall(int top) {
            int i = upTo(0, top);
            int j = random.nextInt(3) == 0 ? i : upTo(0, top);
            if (i == j) {
                return new int[] {i, j, mood == 0 ? upTo(1, 30) : upTo(1, 6)};
            }
            return new int[] {i, j, mood == 2 ? upTo(0, 3) : upTo(0, 9)};
        }

        private int[] setCall(int top) {
            int what = upTo(0, 2);
            int high = what == 0 ? 20 : what == 1 ? 9 : 999;
            int v = what == 0 && mood == 1 ? upTo(1, 6) : upTo(what == 0 ? 1 : 0, high);
            return new int[] {upTo(0, top), what, v};
        }

        private int form(Model m) {
            return upTo(0, 2);
        }

        private int item(Model m) {
            return random.nextBoolean() ? upTo(0, 9) : upTo(0, 60);
        }

        private int itemValue() {
            return random.nextInt(8) == 0 ? random.nextInt() : random.nextInt(3) == 0 ? upTo(1, 30) : upTo(0, 9);
        }
    }

    private static final class Model {
        int n = 3;
        int rule = 0;
        int latest = 0;
        final int[][] gain = new int[5][5];
        final int[] wish = {5, 5, 5, 5, 5};
        final int[] noise = {1, 1, 1, 1, 1};
        final int[] cap = {100, 100, 100, 100, 100};
        final boolean[] on = {true, true, true, true, true};
        int[] power = new int[5];
        String order = "";
        final Object[] sheets = new Object[4];

        Model() {
            for (int[] row : gain) {
                Arrays.fill(row, 1);
            }
            for (int i = 0; i < 5; i++) {
                gain[i][i] = 10;
            }
        }

        static int formOf(Object row) {
            return row instanceof byte[] ? 0 : row instanceof short[] ? 1 : 2;
        }

        static boolean in(int v, int low, int high) {
            return low <= v && v <= high;
        }

        static long far(int refusal) {
            return Long.MIN_VALUE + -refusal;
        }

        boolean sender(int i) {
            return in(i, 0, n - 1);
        }

        List<Integer> members(int bits) {
            List<Integer> list = new ArrayList<>();
            for (int i = 0; i < n; i++) {
                if (on[i] && (bits & (1 << i)) != 0) {
                    list.add(i);
                }
            }
            return list;
        }

        int onBits() {
            int bits = 0;
            for (int i : members(31)) {
                bits += 1 << i;
            }
            return bits;
        }

        long answer(int kind, int[] a) {
            switch (kind) {
                case 1: {
                    if (!in(a[0], 1, 5)) return -2;
                    int was = n;
                    n = a[0];
                    return was;
                }
                case 2: {
                    if (!sender(a[0]) || !sender(a[1])) return -2;
                    if (!gainMayBe(a[0], a[1], a[2])) return -2;
                    int was = gain[a[0]][a[1]];
                    gain[a[0]][a[1]] = a[2];
                    return was;
                }
                case 3: {
                    if (!sender(a[0]) || !in(a[1], 0, 2)) return -2;
                    int[] row = a[1] == 0 ? wish : a[1] == 1 ? noise : cap;
                    int low = a[1] == 0 ? 1 : 0;
                    int high = a[1] == 0 ? 20 : a[1] == 1 ? 9 : 999;
                    if (!in(a[2], low, high)) return -2;
                    int was = row[a[0]];
                    row[a[0]] = a[2];
                    return was;
                }
                case 4: {
                    if (!sender(a[0])) return -2;
                    on[a[0]] = !on[a[0]];
                    return onBits();
                }
                case 5: {
                    if (!sender(a[0]) || !in(a[1], 0, 999)) return -2;
                    int was = power[a[0]];
                    power[a[0]] = a[1];
                    return was;
                }
                case 6: {
                    if (!in(a[0], 0, 2)) return -2;
                    int was = rule;
                    rule = a[0];
                    return was;
                }
                case 7: {
                    if (!in(a[0], 0, 255)) return -2;
                    if (order.length() == 12) return -4;
                    order += (char) a[0];
                    return order.length();
                }
                case 8: {
                    int had = order.length();
                    order = "";
                    return had;
                }
                case 9: return fault();
                case 10: return read(a[0]);
                case 11: return info(a[0], a[1]);
                case 12: return sender(a[0]) && sender(a[1]) ? gain[a[0]][a[1]] : -2;
                case 13: return minor(a[0]);
                case 14: return feasible(onBits(), 1, 1, -1) ? 1 : 0;
                case 15: return least(a[0], a[1]);
                case 16: return witness();
                case 17: return leftOut();
                case 18: return admitted();
                case 19: return softer();
                case 20: return margin();
                case 21: return share(a[0], a[1]);
                case 22: {
                    if (!sender(a[0])) return -2;
                    if (!on[a[0]]) return -3;
                    power[a[0]] = aim(a[0], power);
                    return power[a[0]];
                }
                case 23: {
                    int[] then = turned(power);
                    int changed = differences(power, then);
                    power = then;
                    return changed;
                }
                case 24: return order();
                case 25: return walk().turns;
                case 26: return sender(a[0]) ? walk().powers[a[0]] : -2;
                case 27: return met();
                case 34: return count(a[0]);
                case 35: return digest();
                default: return sheetCall(kind, a);
            }
        }

        boolean gainMayBe(int i, int j, int v) {
            return i == j ? in(v, 1, 30) : in(v, 0, 9);
        }

        int fault() {
            String letters = "abcde".substring(0, n);
            for (int k = 0; k < order.length(); k++) {
                if (letters.indexOf(order.charAt(k)) < 0) return k;
            }
            return -1;
        }

        int read(int s) {
            if (!in(s, 0, 3)) return -2;
            if (sheets[s] == null) return found(1);
            int length = java.lang.reflect.Array.getLength(sheets[s]);
            int k = 0;
            while (k < length && k < n * n) {
                int v = java.lang.reflect.Array.getInt(sheets[s], k);
                if (!gainMayBe(k / n, k % n, v)) break;
                gain[k / n][k % n] = v;
                k++;
            }
            return k;
        }

        int hears(int i, int[] p) {
            int sum = noise[i];
            for (int j : members(31)) {
                if (j != i) sum += gain[i][j] * p[j];
            }
            return sum;
        }

        boolean has(int i, int p, int[] others) {
            return 10 * gain[i][i] * p >= wish[i] * hears(i, others);
        }

        int need(int i, int[] p) {
            int tooLittle = -1;
            int enough = 100_000;
            while (enough - tooLittle > 1) {
                int middle = (enough + tooLittle) / 2;
                if (has(i, middle, p)) enough = middle; else tooLittle = middle;
            }
            return enough;
        }

        int aim(int i, int[] p) {
            return Math.min(need(i, p), cap[i]);
        }

        int info(int i, int what) {
            if (!sender(i) || !in(what, 0, 7)) return -2;
            return new int[] {wish[i], noise[i], cap[i], on[i] ? 1 : 0, power[i], need(i, power),
                on[i] && has(i, power[i], power) ? 1 : 0, gain[i][i]}[what];
        }

        BigInteger[][] laws(List<Integer> set, int ownTimes, int wishTimes, int soft) {
            int size = set.size();
            BigInteger[][] square = new BigInteger[size][size];
            for (int r = 0; r < size; r++) {
                int i = set.get(r);
                int w = i == soft ? Math.max(1, wish[i] - 1) : wish[i];
                for (int c = 0; c < size; c++) {
                    int j = set.get(c);
                    square[r][c] = BigInteger.valueOf(i == j ? 10 * gain[i][i] * ownTimes : -w * wishTimes * gain[i][j]);
                }
            }
            return square;
        }

        static BigInteger determinant(BigInteger[][] square, int size, int row, int usedColumns) {
            if (row == size) return BigInteger.ONE;
            BigInteger sum = BigInteger.ZERO;
            int sign = 1;
            for (int c = 0; c < size; c++) {
                if ((usedColumns & 1 << c) != 0) continue;
                BigInteger part = square[row][c].multiply(determinant(square, size, row + 1, usedColumns | 1 << c));
                sum = sign > 0 ? sum.add(part) : sum.subtract(part);
                sign = -sign;
            }
            return sum;
        }

        long minor(int bits) {
            if (!in(bits, 0, (1 << n) - 1)) return far(-2);
            List<Integer> set = members(bits);
            return determinant(laws(set, 1, 1, -1), set.size(), 0, 0).longValueExact();
        }

        boolean feasible(int bits, int ownTimes, int wishTimes, int soft) {
            List<Integer> set = members(bits);
            for (int k = 1; k <= set.size(); k++) {
                BigInteger[][] square = laws(set.subList(0, k), ownTimes, wishTimes, soft);
                if (determinant(square, k, 0, 0).signum() <= 0) return false;
            }
            return true;
        }

        static BigInteger[] reduced(BigInteger above, BigInteger below) {
            BigInteger g = above.gcd(below);
            if (below.signum() < 0) g = g.negate();
            return new BigInteger[] {above.divide(g), below.divide(g)};
        }

        /** a - f * b, as fractions. */
        static BigInteger[] less(BigInteger[] a, BigInteger[] f, BigInteger[] b) {
            BigInteger above = f[0].multiply(b[0]);
            BigInteger below = f[1].multiply(b[1]);
            return reduced(a[0].multiply(below).subtract(above.multiply(a[1])), a[1].multiply(below));
        }

        static BigInteger[] over(BigInteger[] a, BigInteger[] b) {
            return reduced(a[0].multiply(b[1]), a[1].multiply(b[0]));
        }

        long least(int i, int what) {
            if (!sender(i) || !in(what, 0, 1)) return far(-2);
            if (!on[i] || !feasible(onBits(), 1, 1, -1)) return far(-3);
            List<Integer> set = members(31);
            int size = set.size();
            BigInteger[][] square = laws(set, 1, 1, -1);
            BigInteger[][][] rows = new BigInteger[size][size + 1][];
            for (int r = 0; r < size; r++) {
                for (int c = 0; c < size; c++) {
                    rows[r][c] = new BigInteger[] {square[r][c], BigInteger.ONE};
                }
                int s = set.get(r);
                rows[r][size] = new BigInteger[] {BigInteger.valueOf(wish[s] * noise[s]), BigInteger.ONE};
            }
            for (int p = 0; p < size; p++) {
                for (int r = 0; r < size; r++) {
                    if (r == p) continue;
                    BigInteger[] f = over(rows[r][p], rows[p][p]);
                    for (int c = 0; c <= size; c++) {
                        rows[r][c] = less(rows[r][c], f, rows[p][c]);
                    }
                }
            }
            int at = set.indexOf(i);
            return over(rows[at][size], rows[at][at])[what].longValueExact();
        }

        int witness() {
            if (feasible(onBits(), 1, 1, -1)) return 0;
            for (int size = 1; size <= n; size++) {
                for (int bits = 0; bits < 1 << n; bits++) {
                    if ((bits & onBits()) == bits && Integer.bitCount(bits) == size && !feasible(bits, 1, 1, -1)) return bits;
                }
            }
            throw new IllegalStateException();
        }

        int leftOut() {
            for (int size = 0; size <= n; size++) {
                for (int bits = 0; bits < 1 << n; bits++) {
                    if ((bits & onBits()) == bits && Integer.bitCount(bits) == size
                            && feasible(onBits() - bits, 1, 1, -1)) return bits;
                }
            }
            throw new IllegalStateException();
        }

        int admitted() {
            int in = 0;
            for (int i : members(31)) {
                if (feasible(in + (1 << i), 1, 1, -1)) in += 1 << i;
            }
            return in;
        }

        int softer() {
            if (feasible(onBits(), 1, 1, -1)) return -1;
            for (int i : members(31)) {
                if (feasible(onBits(), 1, 1, i)) return i;
            }
            return -1;
        }

        int margin() {
            int greatest = -1;
            for (int t = 0; t <= 8; t++) {
                if (feasible(onBits(), 4, t, -1)) greatest = t;
            }
            return greatest;
        }

        long share(int i, int what) {
            if (!sender(i) || !in(what, 0, 1)) return far(-2);
            if (!on[i] || hears(i, power) == 0) return far(-3);
            return reduced(BigInteger.valueOf(gain[i][i] * power[i]), BigInteger.valueOf(hears(i, power)))[what].longValueExact();
        }

        int[] turned(int[] before) {
            int[] then = before.clone();
            for (int i : members(31)) {
                if (rule == 1) {
                    then[i] = aim(i, then);
                } else if (rule == 0) {
                    then[i] = aim(i, before);
                } else {
                    then[i] = (int) Math.ceil((before[i] + aim(i, before)) / 2.0);
                }
            }
            return then;
        }

        static int differences(int[] a, int[] b) {
            int many = 0;
            for (int i = 0; i < a.length; i++) {
                if (a[i] != b[i]) many++;
            }
            return many;
        }

        int order() {
            if (fault() != -1) return 0;
            int changed = 0;
            for (char c : order.toCharArray()) {
                int i = c - 'a';
                if (!on[i]) continue;
                int goal = aim(i, power);
                if (goal != power[i]) changed++;
                power[i] = goal;
            }
            return changed;
        }

        record Walked(int turns, int[] powers) { }

        Walked walk() {
            int[] now = power.clone();
            int[] behind200 = now;
            int changing = 0;
            for (int k = 1; k <= 201; k++) {
                int[] then = turned(now);
                if (Arrays.equals(now, then)) break;
                changing++;
                now = then;
                if (k <= 200) behind200 = then;
            }
            return new Walked(changing > 200 ? -1 : changing, behind200);
        }

        int met() {
            int bits = 0;
            for (int i = 0; i < n; i++) {
                bits += info(i, 6) << i;
            }
            return bits;
        }

        int count(int what) {
            switch (what) {
                case 0: return n;
                case 1: return members(31).size();
                case 2: return Integer.bitCount(met());
                case 3: {
                    int sum = 0;
                    for (int i : members(31)) sum += power[i];
                    return sum;
                }
                case 4: return Integer.bitCount(leftOut());
                case 5: return Integer.bitCount(admitted());
                case 6: return order.length();
                case 7: return walk().turns;
                case 8: return latest;
                default: return -2;
            }
        }

        long digest() {
            List<Long> all = new ArrayList<>();
            for (int k = 0; k <= 7; k++) all.add((long) count(k));
            for (int k : new int[] {9, 14, 16, 17, 18, 19, 20, 27}) all.add(answer(k, null));
            for (int i = 0; i < n; i++) {
                for (int k = 0; k <= 7; k++) all.add((long) info(i, k));
                all.add(least(i, 0));
                all.add(least(i, 1));
                all.add(share(i, 0));
                all.add(share(i, 1));
                all.add((long) walk().powers[i]);
                for (int j = 0; j < n; j++) all.add((long) gain[i][j]);
            }
            for (int bits = 0; bits < 1 << n; bits++) all.add(minor(bits));
            BigInteger h = BigInteger.valueOf(17);
            for (long each : all) {
                h = h.multiply(BigInteger.valueOf(31)).add(BigInteger.valueOf(each));
            }
            return h.longValue();
        }

        int found(int number) {
            latest = number;
            return -10 - number;
        }

        /** The machine's own exceptions tell the findings here. */
        long sheetCall(int kind, int[] a) {
            if (!in(a[0], 0, 3)) return kind == 31 ? Integer.MIN_VALUE : -2;
            if (kind == 32 && !in(a[2], 0, 3)) return -2;
            if ((kind == 28 || kind == 30 || kind == 31) && !in(a[1], 0, 2)) return kind == 31 ? Integer.MIN_VALUE : -2;
            if (kind == 28 && a[2] > 60) return -2;
            int finding;
            try {
                return sheetAct(kind, a);
            } catch (NullPointerException e) {
                finding = found(1);
            } catch (ArrayIndexOutOfBoundsException e) {
                finding = found(2);
            } catch (ClassCastException e) {
                finding = found(3);
            } catch (ArrayStoreException e) {
                finding = found(4);
            } catch (NegativeArraySizeException e) {
                finding = found(5);
            }
            return kind == 31 ? Integer.MIN_VALUE : finding;
        }

        private long sheetAct(int kind, int[] a) {
            Object row = sheets[a[0]];
            switch (kind) {
                case 28:
                    sheets[a[0]] = a[1] == 0 ? new byte[a[2]] : a[1] == 1 ? (Object) new short[a[2]] : new int[a[2]];
                    return a[2];
                case 29: {
                    int had = java.lang.reflect.Array.getLength(row);
                    sheets[a[0]] = null;
                    return had;
                }
                case 30:
                    if (a[1] == 0) ((byte[]) row)[a[2]] = (byte) a[3];
                    if (a[1] == 1) ((short[]) row)[a[2]] = (short) a[3];
                    if (a[1] == 2) ((int[]) row)[a[2]] = a[3];
                    return 1;
                case 31:
                    return a[1] == 0 ? ((byte[]) row)[a[2]] : a[1] == 1 ? ((short[]) row)[a[2]] : ((int[]) row)[a[2]];
                case 32:
                    System.arraycopy(row, a[1], sheets[a[2]], a[3], a[4]);
                    return 1;
                default: {
                    int[] rest = walk().powers;
                    int many = Math.min(n, java.lang.reflect.Array.getLength(row));
                    for (int i = 0; i < many; i++) {
                        if (row instanceof byte[] b) b[i] = (byte) rest[i];
                        if (row instanceof short[] h) h[i] = (short) rest[i];
                        if (row instanceof int[] w) w[i] = rest[i];
                    }
                    return many;
                }
            }
        }
    }
}
