import java.io.IOException;
import java.nio.file.Files;
import java.nio.file.Path;
import java.util.Arrays;
import java.util.Set;
import java.util.TreeSet;

/**
 * What the edge tests share. An edge is one sentence of the document that names a boundary: it tells
 * its promise, quotes the words, and runs by itself on objects of its own (of at most 512 calls).
 */
abstract class Edges {
    static final int LEAST_INT = Integer.MIN_VALUE;
    static final int MOST_INT = Integer.MAX_VALUE;
    static final int BAD = PowerShares.BAD;
    static final int NOT = PowerShares.NOT;
    static final int FULL = PowerShares.FULL;
    static final int NONE = PowerShares.NONE;
    static final long LONG_BAD = Long.MIN_VALUE + 2;
    static final long LONG_NOT = Long.MIN_VALUE + 3;
    static final int NULL = -11;
    static final int INDEX = -12;
    static final int CAST = -13;
    static final int STORE = -14;
    static final int SIZE = -15;
    /** Numbers that are no SENDER, SHEET, FORM or RULE; shifts by 32 and more come back to the low bits. */
    static final int[] WILD = {-1, -2, LEAST_INT, LEAST_INT + 1, MOST_INT, 31, 32, 33, 64, 255, 256, 1000};

    /** The edges that did not hold, as "promise: words". */
    static final Set<String> FAILED = new TreeSet<>();

    private static final int SHOWN = 5;
    private static final Set<Integer> PROMISES = new TreeSet<>();
    private static final String DOCUMENT = document();
    private static int edges = 0;
    private static int wrong = 0;
    private static int wrongHere = 0;
    private static String at = "";

    interface Body {
        void run();
    }

    static void edge(int promise, String words, Body body) {
        edges++;
        PROMISES.add(promise);
        at = promise + ": \"" + words + "\"";
        wrongHere = 0;
        if (!DOCUMENT.contains(words)) {
            fault("these words do not stand in the document");
        }
        try {
            body.run();
        } catch (RuntimeException e) {
            fault("a call threw " + e);
        }
        if (wrongHere > 0) {
            FAILED.add(at);
        }
        if (wrongHere > SHOWN) {
            System.out.println("promise " + at + ": " + (wrongHere - SHOWN) + " more");
        }
    }

    static void due(String call, long got, long want) {
        if (got != want) {
            fault(call + " answered " + got + ", due is " + want);
        }
    }

    private static void fault(String what) {
        wrong++;
        wrongHere++;
        if (wrongHere <= SHOWN) {
            System.out.println("promise " + at + ": " + what);
        }
    }

    /** Every one of these promises must have had an edge. */
    static void end(String name, int... promises) {
        for (int promise : promises) {
            if (!PROMISES.contains(promise)) {
                wrong++;
                System.out.println("promise " + promise + " has no edge");
            }
        }
        System.out.println(name + ": " + edges + " edges, "
                + (wrong == 0 ? "all answers are as due" : wrong + " answers are not as due"));
        if (wrong != 0) {
            System.exit(1);
        }
    }

    private static String document() {
        try {
            return Files.readString(Path.of("../shared/DOC.md")).replaceAll("\\s+", " ");
        } catch (IOException e) {
            throw new IllegalStateException("the document is not at ../shared/DOC.md", e);
        }
    }

    // ---- scenes

    static PowerShares senders(int n) {
        PowerShares x = new PowerShares();
        x.senders(n);
        return x;
    }

    /** Senders with OWN 1 that hear nobody: in LAWS 10 at each place of the diagonal, else 0. */
    static PowerShares deaf(int n) {
        PowerShares x = senders(n);
        for (int i = 0; i < n; i++) {
            for (int j = 0; j < n; j++) {
                x.gain(i, j, i == j ? 1 : 0);
            }
        }
        return x;
    }

    /** Two that hear each other; by WISHES 5 and GAIN 2 their MINOR is just 0, by GAIN 9 far below. */
    static PowerShares clash(PowerShares x, int i, int j, int v) {
        x.gain(i, j, v);
        x.gain(j, i, v);
        return x;
    }

    /** Two senders of which each needs one more than the other has. */
    static PowerShares pair() {
        return clash(deaf(2), 0, 1, 2);
    }

    /** Senders in a ring, each hears only the next one with GAIN 2: the MINOR of all is just 0, of fewer above. */
    static PowerShares ring(int n) {
        PowerShares x = deaf(n);
        for (int i = 0; i < n; i++) {
            x.gain(i, (i + 1) % n, 2);
        }
        return x;
    }

    /** Two senders whose MINOR is 10 times 10 less 11 times 9: just 1. */
    static PowerShares justFeasible() {
        PowerShares x = deaf(2);
        wishes(x, 11, 1);
        x.gain(0, 1, 1);
        x.gain(1, 0, 9);
        return x;
    }

    static PowerShares wishes(PowerShares x, int... v) {
        for (int i = 0; i < v.length; i++) {
            x.set(i, 0, v[i]);
        }
        return x;
    }

    static PowerShares noises(PowerShares x, int... v) {
        for (int i = 0; i < v.length; i++) {
            x.set(i, 1, v[i]);
        }
        return x;
    }

    static PowerShares caps(PowerShares x, int... v) {
        for (int i = 0; i < v.length; i++) {
            x.set(i, 2, v[i]);
        }
        return x;
    }

    static PowerShares powers(PowerShares x, int... v) {
        for (int i = 0; i < v.length; i++) {
            x.power(i, v[i]);
        }
        return x;
    }

    static PowerShares typed(PowerShares x, String order) {
        for (char c : order.toCharArray()) {
            x.type(c);
        }
        return x;
    }

    /** A SHEET with these items. */
    static PowerShares filled(PowerShares x, int s, int form, int... items) {
        x.sheet(s, form, items.length);
        for (int k = 0; k < items.length; k++) {
            x.put(s, form, k, items[k]);
        }
        return x;
    }

    static int[] times(int n, int v) {
        int[] row = new int[n];
        Arrays.fill(row, v);
        return row;
    }

    static void duePowers(String behind, PowerShares x, int... v) {
        for (int i = 0; i < v.length; i++) {
            due("power of " + i + " behind " + behind, x.info(i, 4), v[i]);
        }
    }

    static void dueItems(String behind, PowerShares x, int s, int form, int... items) {
        for (int k = 0; k < items.length; k++) {
            due("item " + k + " of SHEET " + s + " behind " + behind, x.get(s, form, k), items[k]);
        }
    }

    static void dueGains(String behind, PowerShares x, int[][] gains) {
        for (int i = 0; i < gains.length; i++) {
            for (int j = 0; j < gains[i].length; j++) {
                due("heard(" + i + ", " + j + ") behind " + behind, x.heard(i, j), gains[i][j]);
            }
        }
    }
}
