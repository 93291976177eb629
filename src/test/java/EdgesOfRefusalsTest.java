import java.util.ArrayList;
import java.util.List;
import java.util.function.ToLongFunction;

/**
 * Edges of the paragraph on refusals, for every act: of two like objects one is refused something,
 * then all that can be seen of both must be alike.
 */
public final class EdgesOfRefusalsTest extends Edges {
    private static final String NOTHING = "They change nothing (FINDINGS but count() 8).";
    private static final String FIRST = "Refusals, the first that fits, in the order told at each act";

    public static void main(String[] args) {
        told();
        exactly();
        steps();
        sheets();
        answersChangeNothing();
        end("edges of refusals", 2, 3, 4, 5, 6, 7, 8, 11, 12, 13, 14, 16, 22, 23, 27, 29, 30, 31, 32, 33, 34, 35);
    }

    /** Four SENDERS, unlike in all; 2 is OFF; a full ORDER; bytes, shorts, a LOST SHEET and an empty one. */
    private static PowerShares busy() {
        PowerShares x = senders(4);
        for (int i = 0; i < 4; i++) {
            x.gain(i, i, 3 * i + 4);
            x.gain(i, (i + 1) % 4, i + 2);
            x.set(i, 0, 2 * i + 3);
            x.set(i, 1, i + 1);
            x.set(i, 2, 40 + i);
            x.power(i, 10 - i);
        }
        x.on(2);
        x.rule(1);
        typed(x, "abcdabcdabcd");
        filled(x, 0, 0, 12, 3);
        filled(x, 1, 1, 300, -300, 5);
        filled(x, 3, 2);
        return x;
    }

    /** All that can be seen of an object but count() 8; it is spent by that. */
    private static List<Long> seen(PowerShares x) {
        List<Long> all = new ArrayList<>();
        all.add(x.digest());
        all.add((long) x.rule(0));
        all.add((long) x.fault());
        all.add((long) x.order());
        all.add(x.digest());
        all.add((long) x.wipe());
        for (int s = 0; s < 4; s++) {
            for (int form = 0; form < 3; form++) {
                for (int k = 0; k < 4; k++) {
                    all.add((long) x.get(s, form, k));
                }
            }
            all.add((long) x.lose(s));
        }
        all.add((long) x.senders(5));
        all.add(x.digest());
        return all;
    }

    private static void dueNothingChanged(String call, PowerShares x, int finding) {
        due("count(8) behind " + call, x.count(8), finding);
        List<Long> with = seen(x);
        List<Long> without = seen(busy());
        for (int k = 0; k < without.size(); k++) {
            due("part " + k + " of what is seen behind " + call, with.get(k), without.get(k));
        }
    }

    /** The answer that is due, and nothing changed; a FINDING is told by count() 8, others are not. */
    private static void refused(String call, ToLongFunction<PowerShares> act, long answer) {
        PowerShares x = busy();
        due(call, act.applyAsLong(x), answer);
        boolean found = answer <= NULL && answer >= SIZE;
        dueNothingChanged(call, x, found ? (int) (-10 - answer) : 0);
    }

    /** As refused(), of a get: its answer is the same for all. */
    private static void refusedGet(int s, int form, int i, int finding) {
        PowerShares x = busy();
        due("get(" + s + ", " + form + ", " + i + ")", x.get(s, form, i), LEAST_INT);
        dueNothingChanged("get(" + s + ", " + form + ", " + i + ")", x, finding);
    }

    private static void told() {
        edge(2, NOTHING, () -> {
            refused("senders(0)", x -> x.senders(0), BAD);
            refused("senders(6)", x -> x.senders(6), BAD);
        });
        edge(3, NOTHING, () -> {
            refused("gain(4, 0, 1)", x -> x.gain(4, 0, 1), BAD);
            refused("gain(0, 4, 1)", x -> x.gain(0, 4, 1), BAD);
            refused("gain(4, 4, 1)", x -> x.gain(4, 4, 1), BAD);
            refused("gain(0, 0, 0)", x -> x.gain(0, 0, 0), BAD);
            refused("gain(0, 0, 31)", x -> x.gain(0, 0, 31), BAD);
            refused("gain(0, 3, 10)", x -> x.gain(0, 3, 10), BAD);
            refused("gain(0, 3, -1)", x -> x.gain(0, 3, -1), BAD);
        });
        edge(4, NOTHING, () -> {
            refused("set(4, 0, 1)", x -> x.set(4, 0, 1), BAD);
            refused("set(-1, 1, 1)", x -> x.set(-1, 1, 1), BAD);
            refused("set(0, 3, 1)", x -> x.set(0, 3, 1), BAD);
            refused("set(0, -1, 1)", x -> x.set(0, -1, 1), BAD);
            refused("set(0, 0, 0)", x -> x.set(0, 0, 0), BAD);
            refused("set(0, 0, 21)", x -> x.set(0, 0, 21), BAD);
            refused("set(0, 1, 10)", x -> x.set(0, 1, 10), BAD);
            refused("set(0, 1, -1)", x -> x.set(0, 1, -1), BAD);
            refused("set(0, 2, 1000)", x -> x.set(0, 2, 1000), BAD);
            refused("set(0, 2, -1)", x -> x.set(0, 2, -1), BAD);
        });
        edge(5, NOTHING, () -> {
            refused("on(4)", x -> x.on(4), BAD);
            refused("on(-1)", x -> x.on(-1), BAD);
            refused("on(32)", x -> x.on(32), BAD);
        });
        edge(6, NOTHING, () -> {
            refused("power(4, 1)", x -> x.power(4, 1), BAD);
            refused("power(-1, 1)", x -> x.power(-1, 1), BAD);
            refused("power(0, 1000)", x -> x.power(0, 1000), BAD);
            refused("power(0, -1)", x -> x.power(0, -1), BAD);
        });
        edge(7, NOTHING, () -> {
            refused("rule(3)", x -> x.rule(3), BAD);
            refused("rule(-1)", x -> x.rule(-1), BAD);
        });
        edge(8, NOTHING, () -> {
            refused("type(97)", x -> x.type(97), FULL);
            refused("type(0)", x -> x.type(0), FULL);
            refused("type(256)", x -> x.type(256), BAD);
            refused("type(-1)", x -> x.type(-1), BAD);
        });
        edge(8, FIRST, () -> {
            due("type(256), FULL, too", busy().type(256), BAD);
            due("type(255)", busy().type(255), FULL);
        });
        edge(11, NOTHING, () -> {
            refused("read(4)", x -> x.read(4), BAD);
            refused("read(-1)", x -> x.read(-1), BAD);
            refused("read(2)", x -> x.read(2), NULL);
        });
        edge(12, NOTHING, () -> {
            refused("info(4, 0)", x -> x.info(4, 0), BAD);
            refused("info(0, 8)", x -> x.info(0, 8), BAD);
            refused("info(0, -1)", x -> x.info(0, -1), BAD);
        });
        edge(13, NOTHING, () -> {
            refused("heard(4, 0)", x -> x.heard(4, 0), BAD);
            refused("heard(0, 4)", x -> x.heard(0, 4), BAD);
        });
    }

    private static void exactly() {
        edge(14, NOTHING, () -> {
            refused("minor(16)", x -> x.minor(16), LONG_BAD);
            refused("minor(-1)", x -> x.minor(-1), LONG_BAD);
        });
        edge(16, NOTHING, () -> {
            refused("least(4, 0)", x -> x.least(4, 0), LONG_BAD);
            refused("least(0, 2)", x -> x.least(0, 2), LONG_BAD);
            refused("least(2, 0)", x -> x.least(2, 0), LONG_NOT);
        });
        edge(16, FIRST, () -> {
            due("least(2, 2), OFF, too", busy().least(2, 2), LONG_BAD);
            due("least(0, 2), not FEASIBLE, too", pair().least(0, 2), LONG_BAD);
            due("least(2, 0), not FEASIBLE, too", pair().least(2, 0), LONG_BAD);
        });
        edge(22, NOTHING, () -> {
            refused("share(4, 0)", x -> x.share(4, 0), LONG_BAD);
            refused("share(0, -1)", x -> x.share(0, -1), LONG_BAD);
            refused("share(2, 0)", x -> x.share(2, 0), LONG_NOT);
        });
        edge(22, FIRST, () -> {
            due("share(2, 2), OFF, too", busy().share(2, 2), LONG_BAD);
            due("share(0, 2), nothing heard, too", noises(deaf(1), 0).share(0, 2), LONG_BAD);
            due("share(1, 0), nothing heard, too", noises(deaf(1), 0).share(1, 0), LONG_BAD);
        });
    }

    private static void steps() {
        edge(23, NOTHING, () -> {
            refused("step(4)", x -> x.step(4), BAD);
            refused("step(-1)", x -> x.step(-1), BAD);
            refused("step(2)", x -> x.step(2), NOT);
        });
        edge(27, NOTHING, () -> {
            refused("rest(4)", x -> x.rest(4), BAD);
            refused("rest(-1)", x -> x.rest(-1), BAD);
        });
    }

    private static void sheets() {
        edge(29, NOTHING, () -> {
            refused("sheet(4, 0, 1)", x -> x.sheet(4, 0, 1), BAD);
            refused("sheet(0, 3, 1)", x -> x.sheet(0, 3, 1), BAD);
            refused("sheet(0, 0, 61)", x -> x.sheet(0, 0, 61), BAD);
            refused("sheet(0, 0, -1)", x -> x.sheet(0, 0, -1), SIZE);
            refused("sheet(2, 1, -1)", x -> x.sheet(2, 1, -1), SIZE);
            refused("sheet(4, 0, -1)", x -> x.sheet(4, 0, -1), BAD);
            refused("sheet(0, 3, -1)", x -> x.sheet(0, 3, -1), BAD);
        });
        edge(30, NOTHING, () -> {
            refused("lose(4)", x -> x.lose(4), BAD);
            refused("lose(2)", x -> x.lose(2), NULL);
        });
        edge(31, NOTHING, () -> {
            refused("put(4, 0, 0, 9)", x -> x.put(4, 0, 0, 9), BAD);
            refused("put(0, 3, 0, 9)", x -> x.put(0, 3, 0, 9), BAD);
            refused("put(2, 0, 0, 9)", x -> x.put(2, 0, 0, 9), NULL);
            refused("put(0, 1, 0, 9)", x -> x.put(0, 1, 0, 9), CAST);
            refused("put(0, 0, 2, 9)", x -> x.put(0, 0, 2, 9), INDEX);
            refused("put(3, 2, 0, 9)", x -> x.put(3, 2, 0, 9), INDEX);
        });
        edge(32, NOTHING, () -> {
            refusedGet(4, 0, 0, 0);
            refusedGet(0, 3, 0, 0);
            refusedGet(2, 0, 0, 1);
            refusedGet(0, 1, 0, 3);
            refusedGet(0, 0, 2, 2);
            refusedGet(3, 2, 0, 2);
        });
        edge(33, NOTHING, () -> {
            refused("copy(4, 0, 0, 0, 1)", x -> x.copy(4, 0, 0, 0, 1), BAD);
            refused("copy(0, 0, 4, 0, 1)", x -> x.copy(0, 0, 4, 0, 1), BAD);
            refused("copy(2, 0, 0, 0, 1)", x -> x.copy(2, 0, 0, 0, 1), NULL);
            refused("copy(0, 0, 2, 0, 1)", x -> x.copy(0, 0, 2, 0, 1), NULL);
            refused("copy(0, 0, 1, 0, 1)", x -> x.copy(0, 0, 1, 0, 1), STORE);
            refused("copy(1, 0, 1, 1, 3)", x -> x.copy(1, 0, 1, 1, 3), INDEX);
            refused("copy(1, 1, 1, 0, 3)", x -> x.copy(1, 1, 1, 0, 3), INDEX);
        });
        edge(34, NOTHING, () -> {
            refused("write(4)", x -> x.write(4), BAD);
            refused("write(2)", x -> x.write(2), NULL);
        });
        edge(35, NOTHING, () -> {
            refused("count(9)", x -> x.count(9), BAD);
            refused("count(-1)", x -> x.count(-1), BAD);
        });
    }

    /** What only asks leaves no trace, so that an answer never depends on what was asked before. */
    private static void answersChangeNothing() {
        edge(26, "(nothing stays of it)", () -> {
            PowerShares x = busy();
            for (int what = 0; what < 8; what++) {
                x.count(what);
                x.info(0, what);
            }
            for (int i = 0; i < 4; i++) {
                x.least(i, 0);
                x.share(i, 1);
                x.rest(i);
                x.heard(i, 0);
            }
            x.minor(15);
            x.feasible();
            x.witness();
            x.out();
            x.admitted();
            x.softer();
            x.margin();
            x.still();
            x.met();
            x.fault();
            x.digest();
            x.get(0, 0, 0);
            x.write(3);
            dueNothingChanged("questions", x, 0);
        });
    }
}
