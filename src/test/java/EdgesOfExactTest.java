import java.math.BigInteger;

/** Edges of promises 14 to 22: what is told exactly. */
public final class EdgesOfExactTest extends Edges {
    public static void main(String[] args) {
        minor();
        feasible();
        leastOfOne();
        leastOfMore();
        witness();
        out();
        admitted();
        softer();
        margin();
        share();
        end("edges of what is told exactly", 14, 15, 16, 17, 18, 19, 20, 21, 22);
    }

    /** All hear all others with GAIN v. */
    private static PowerShares crowd(int n, int own, int v) {
        PowerShares x = senders(n);
        for (int i = 0; i < n; i++) {
            for (int j = 0; j < n; j++) {
                x.gain(i, j, i == j ? own : v);
            }
        }
        return x;
    }

    /** The middle one and each other one are not FEASIBLE. */
    private static PowerShares star(int n, int middle) {
        PowerShares x = deaf(n);
        for (int i = 0; i < n; i++) {
            if (i != middle) {
                clash(x, i, middle, 9);
            }
        }
        return x;
    }

    // ---- promise 14

    private static void minor() {
        edge(14, "MINOR of those of a set that are ON. BAD: not bits of SENDERS.", () -> {
            for (int n = 1; n <= 5; n++) {
                PowerShares x = senders(n);
                int all = (1 << n) - 1;
                due("minor(0) among " + n, x.minor(0), 1);
                // 105 to the power of one less, times 100 less 5 of each other one
                long whole = 100 - 5 * (n - 1);
                for (int k = 1; k < n; k++) {
                    whole *= 105;
                }
                due("minor of all " + n, x.minor(all), whole);
                due("minor, one more bit", x.minor(all + 1), LONG_BAD);
                due("minor, all and one more", x.minor(2 * all + 1), LONG_BAD);
                due("minor(-1)", x.minor(-1), LONG_BAD);
                due("minor(-32)", x.minor(-32), LONG_BAD);
                due("minor, least int", x.minor(LEAST_INT), LONG_BAD);
                due("minor, least int and one", x.minor(LEAST_INT + 1), LONG_BAD);
                due("minor, most int", x.minor(MOST_INT), LONG_BAD);
            }
        });
        edge(14, "Where the answer is a long, a refusal -x is the least long and x more", () -> {
            due("minor(8)", new PowerShares().minor(8), -9223372036854775806L);
            due("least(3, 0)", new PowerShares().least(3, 0), -9223372036854775806L);
            due("share(3, 0)", new PowerShares().share(3, 0), -9223372036854775806L);
            PowerShares x = new PowerShares();
            x.on(0);
            due("least(0, 0), OFF", x.least(0, 0), -9223372036854775805L);
            due("share(0, 0), OFF", x.share(0, 0), -9223372036854775805L);
        });
        edge(14, "MINOR of a set of these: the determinant of the square of its rows and columns (1 of none)", () -> {
            PowerShares x = new PowerShares();
            x.on(0);
            due("minor(1), OFF", x.minor(1), 1);
            due("minor(3), 0 is OFF", x.minor(3), 100);
            due("minor(7), 0 is OFF", x.minor(7), 9975);
            x.on(1);
            x.on(2);
            due("minor(7), none ON", x.minor(7), 1);
            due("minor(0), none ON", x.minor(0), 1);
            due("minor(8), none ON", x.minor(8), LONG_BAD);
        });
        edge(14, "in row i ten times OWN of i at i, and WISH of i times GAIN of i and j, below 0, at j", () -> {
            // 10 -6 0 / 0 20 -14 / -27 0 30: 6000 less 6 times 14 times 27
            PowerShares x = wishes(deaf(3), 2, 7, 9);
            x.gain(1, 1, 2);
            x.gain(2, 2, 3);
            x.gain(0, 1, 3);
            x.gain(1, 2, 2);
            x.gain(2, 0, 3);
            due("a ring", x.minor(7), 3732);
            due("two of it", x.minor(3), 200);
            due("two of it", x.minor(5), 300);
            due("two of it", x.minor(6), 600);
            x.set(0, 1, 9);
            x.set(0, 2, 0);
            x.power(0, 999);
            due("NOISE, CAP and power are not in it", x.minor(7), 3732);
        });
        edge(14, "the determinant of the square of its rows and columns", () -> {
            due("just 0", ring(5).minor(31), 0);
            due("just 1", justFeasible().minor(3), 1);
            due("below 0", clash(deaf(2), 0, 1, 9).minor(3), -1925);
            due("the greatest", crowd(5, 30, 0).minor(31), 2430000000000L);
            PowerShares x = wishes(crowd(5, 30, 9), 20, 20, 20, 20, 20);
            due("the least of OWN 30", x.minor(31), -22295347200000L);
            PowerShares y = wishes(crowd(5, 1, 9), 20, 20, 20, 20, 20);
            // (10 less 4 times 180) times 190 to the power of 4
            due("the least of OWN 1", y.minor(31), -925279100000L);
        });
    }

    // ---- promise 15

    private static void feasible() {
        edge(15, "are above 0", () -> {
            due("MINOR 1", justFeasible().feasible(), 1);
            for (int n = 2; n <= 5; n++) {
                due("MINOR 0 of " + n, ring(n).feasible(), 0);
            }
            // 10 times 100 less 77 times 13
            PowerShares x = wishes(deaf(2), 11, 13);
            x.gain(0, 0, 10);
            x.gain(0, 1, 7);
            x.gain(1, 0, 1);
            due("minor(3)", x.minor(3), -1);
            due("MINOR -1", x.feasible(), 0);
        });
        edge(15, "the MINORS of the first one, of the first two, and so on, of all that are ON", () -> {
            PowerShares x = clash(clash(deaf(4), 0, 1, 9), 2, 3, 9);
            due("minor of all", x.minor(15), 1925L * 1925);
            due("the first two are too many", x.feasible(), 0);
            PowerShares y = clash(clash(deaf(5), 1, 2, 9), 3, 4, 9);
            due("minor of all", y.minor(31), 10L * 1925 * 1925);
            due("the first three are too many", y.feasible(), 0);
            y.senders(2);
            due("the first two alone", y.feasible(), 1);
            y.senders(3);
            due("the first three alone", y.feasible(), 0);
            due("only all are too many", ring(4).feasible(), 0);
        });
        edge(15, "of all that are ON", () -> {
            PowerShares x = clash(deaf(3), 1, 2, 2);
            due("all ON", x.feasible(), 0);
            x.on(0);
            due("one that does not matter is OFF", x.feasible(), 0);
            x.on(2);
            due("one of the two is OFF", x.feasible(), 1);
            x.on(1);
            due("none ON", x.feasible(), 1);
            x.on(1);
            x.on(2);
            x.senders(2);
            due("one of the two is not there", x.feasible(), 1);
        });
        edge(15, "Whether they are FEASIBLE: 1, 0.", () -> {
            for (int n = 1; n <= 5; n++) {
                due("at first, " + n, senders(n).feasible(), 1);
                due("at the limits, " + n, wishes(crowd(n, 1, 9), 20, 20, 20, 20, 20).feasible(), n == 1 ? 1 : 0);
            }
            PowerShares x = caps(senders(2), 0, 0);
            due("CAPS do not matter", x.feasible(), 1);
        });
    }

    // ---- promise 16

    private static void leastOfOne() {
        edge(16, "FRACTIONS, told in lowest terms, above and below (below above 0; 0 by 1)", () -> {
            int[][] ownWishNoise = {{10, 5, 1}, {10, 5, 0}, {1, 20, 9}, {30, 1, 7}, {30, 20, 9}, {30, 1, 1}, {7, 14, 5}};
            int[][] fraction = {{1, 20}, {0, 1}, {18, 1}, {7, 300}, {3, 5}, {1, 300}, {1, 1}};
            for (int k = 0; k < fraction.length; k++) {
                PowerShares x = noises(wishes(senders(1), ownWishNoise[k][1]), ownWishNoise[k][2]);
                x.gain(0, 0, ownWishNoise[k][0]);
                due("least(0, 0), case " + k, x.least(0, 0), fraction[k][0]);
                due("least(0, 1), case " + k, x.least(0, 1), fraction[k][1]);
            }
            PowerShares x = noises(senders(5), 0, 0, 0, 0, 0);
            for (int i = 0; i < 5; i++) {
                due("least(" + i + ", 0), nothing to be heard", x.least(i, 0), 0);
                due("least(" + i + ", 1), nothing to be heard", x.least(i, 1), 1);
            }
        });
        edge(16, "above (what = 0), below (1). BAD", () -> {
            PowerShares x = new PowerShares();
            due("least(0, 0)", x.least(0, 0), 1);
            due("least(0, 1)", x.least(0, 1), 18);
            due("least(0, 2)", x.least(0, 2), LONG_BAD);
            for (int what : WILD) {
                due("least(0, " + what + ")", x.least(0, what), LONG_BAD);
            }
        });
        edge(16, "BAD; NOT: it is OFF, they are not FEASIBLE.", () -> {
            PowerShares x = pair();
            for (int i = 0; i < 2; i++) {
                due("least(" + i + ", 0), MINOR 0", x.least(i, 0), LONG_NOT);
                due("least(" + i + ", 1), MINOR 0", x.least(i, 1), LONG_NOT);
                due("least(" + i + ", 2), MINOR 0", x.least(i, 2), LONG_BAD);
            }
            x.on(0);
            due("least(0, 0), OFF", x.least(0, 0), LONG_NOT);
            due("least(0, 1), OFF", x.least(0, 1), LONG_NOT);
            due("least(0, -1), OFF", x.least(0, -1), LONG_BAD);
            due("least(1, 0), alone", x.least(1, 0), 1);
            due("least(1, 1), alone", x.least(1, 1), 2);
            x.on(1);
            due("least(1, 0), none ON", x.least(1, 0), LONG_NOT);
            due("least(2, 0), not there", x.least(2, 0), LONG_BAD);
            PowerShares y = clash(clash(deaf(4), 0, 1, 9), 2, 3, 9);
            due("least(0, 0), the MINOR of all above 0, but of the first two below", y.least(0, 0), LONG_NOT);
        });
    }

    private static void leastOfMore() {
        edge(16, "those by which ten times OWN times p is just WISH times what is heard, for each", () -> {
            PowerShares x = justFeasible();
            due("least(0, 0), MINOR 1", x.least(0, 0), 121);
            due("least(0, 1), MINOR 1", x.least(0, 1), 1);
            due("least(1, 0), MINOR 1", x.least(1, 0), 109);
            due("least(1, 1), MINOR 1", x.least(1, 1), 1);
            noises(x, 9, 9);
            due("least(0, 0), NOISE 9", x.least(0, 0), 1089);
            due("least(1, 0), NOISE 9", x.least(1, 0), 981);
            noises(x, 0, 1);
            due("least(0, 0), NOISE of the other", x.least(0, 0), 11);
            due("least(1, 0), NOISE of its own", x.least(1, 0), 10);
        });
        edge(16, "told in lowest terms", () -> {
            PowerShares x = primes();
            dueLeastFits(x);
            noises(x, 0, 0, 0, 0, 9);
            dueLeastFits(x);
            x.on(2);
            dueLeastFits(x);
            x.on(0);
            dueLeastFits(x);
            x.senders(4);
            dueLeastFits(x);
        });
    }

    /** Five that are just FEASIBLE, with few common divisors. */
    private static PowerShares primes() {
        PowerShares x = noises(wishes(senders(5), 19, 17, 13, 11, 7), 9, 7, 5, 8, 1);
        int[][] gains = {{29, 3, 2, 1, 4}, {5, 23, 2, 3, 1}, {7, 1, 30, 5, 9}, {2, 3, 5, 19, 7}, {9, 7, 5, 3, 17}};
        for (int i = 0; i < 5; i++) {
            for (int j = 0; j < 5; j++) {
                x.gain(i, j, gains[i][j]);
            }
        }
        return x;
    }

    /** Puts the told fractions into the laws; with all belows multiplied the laws are of whole numbers. */
    private static void dueLeastFits(PowerShares x) {
        int n = x.count(0);
        BigInteger whole = BigInteger.ONE;
        BigInteger[] above = new BigInteger[n];
        BigInteger[] below = new BigInteger[n];
        for (int i = 0; i < n; i++) {
            boolean on = x.info(i, 3) == 1;
            above[i] = on ? BigInteger.valueOf(x.least(i, 0)) : BigInteger.ZERO;
            below[i] = on ? BigInteger.valueOf(x.least(i, 1)) : BigInteger.ONE;
            due("below of " + i + " is above 0", below[i].signum(), 1);
            due("common divisor of " + i, above[i].gcd(below[i]).longValue(), 1);
            whole = whole.multiply(below[i]);
        }
        for (int i = 0; i < n; i++) {
            if (x.info(i, 3) == 1) {
                BigInteger heard = whole.multiply(BigInteger.valueOf(x.info(i, 1)));
                for (int j = 0; j < n; j++) {
                    if (j != i) {
                        heard = heard.add(whole.multiply(above[j]).divide(below[j]).multiply(BigInteger.valueOf(x.heard(i, j))));
                    }
                }
                BigInteger own = whole.multiply(above[i]).divide(below[i]).multiply(BigInteger.valueOf(10L * x.info(i, 7)));
                BigInteger wanted = heard.multiply(BigInteger.valueOf(x.info(i, 0)));
                due("the law of " + i + " fits", own.compareTo(wanted), 0);
            }
        }
    }

    // ---- promise 17

    private static void witness() {
        edge(17, "WITNESS, as bits; 0: they are FEASIBLE.", () -> {
            for (int n = 1; n <= 5; n++) {
                due("witness() at first, " + n, senders(n).witness(), 0);
            }
            due("witness(), MINOR 1", justFeasible().witness(), 0);
            PowerShares x = pair();
            x.on(0);
            due("witness(), one ON", x.witness(), 0);
            x.on(1);
            due("witness(), none ON", x.witness(), 0);
        });
        edge(17, "that are not FEASIBLE by themselves", () -> {
            for (int n = 2; n <= 5; n++) {
                due("witness(), only all " + n, ring(n).witness(), (1 << n) - 1);
            }
        });
        edge(17, "the one with fewest SENDERS", () -> {
            PowerShares x = deaf(5);
            x.gain(0, 1, 2);
            x.gain(1, 2, 2);
            x.gain(2, 0, 2);
            due("three", x.witness(), 7);
            clash(x, 3, 4, 2);
            due("three, and two behind them", x.witness(), 24);
            due("the last two alone", clash(deaf(5), 3, 4, 2).witness(), 24);
        });
        edge(17, "with fewest SENDERS, of like ones the least as bits", () -> {
            due("0 and 3, 1 and 2", clash(clash(deaf(4), 0, 3, 9), 1, 2, 9).witness(), 6);
            due("0 and 1, 2 and 3", clash(clash(deaf(4), 0, 1, 9), 2, 3, 9).witness(), 3);
            due("1 and 4, 2 and 3", clash(clash(deaf(5), 1, 4, 9), 2, 3, 9).witness(), 12);
            due("all two by two", crowd(5, 1, 9).witness(), 3);
            due("each and the last", star(5, 4).witness(), 17);
        });
        edge(17, "of all sets of those that are ON", () -> {
            PowerShares x = crowd(5, 1, 9);
            x.on(0);
            due("witness(), 0 is OFF", x.witness(), 6);
            x.on(2);
            due("witness(), 2 is OFF", x.witness(), 10);
            x.on(0);
            due("witness(), 0 is ON again", x.witness(), 3);
            x.senders(1);
            due("witness(), one there", x.witness(), 0);
        });
    }

    // ---- promise 18

    private static void out() {
        edge(18, "(0: none need be)", () -> {
            for (int n = 1; n <= 5; n++) {
                due("out() at first, " + n, senders(n).out(), 0);
            }
            due("out(), MINOR 1", justFeasible().out(), 0);
            PowerShares x = pair();
            x.on(1);
            due("out(), one ON", x.out(), 0);
            x.on(0);
            due("out(), none ON", x.out(), 0);
        });
        edge(18, "without which the others are FEASIBLE the one with fewest", () -> {
            due("out(), MINOR 0", pair().out(), 1);
            due("the middle, not the four around it", star(5, 4).out(), 16);
            due("the middle, not the two around it", star(3, 1).out(), 2);
            for (int n = 2; n <= 5; n++) {
                due("all but the last of " + n, crowd(n, 1, 9).out(), (1 << n - 1) - 1);
            }
        });
        edge(18, "the one with fewest, of like ones the least as bits", () -> {
            due("one of a ring", ring(5).out(), 1);
            due("0 and 3, 1 and 2", clash(clash(deaf(4), 0, 3, 9), 1, 2, 9).out(), 3);
            due("0 and 1, 2 and 3", clash(clash(deaf(4), 0, 1, 9), 2, 3, 9).out(), 5);
            due("3 and 4", clash(deaf(5), 3, 4, 9).out(), 8);
        });
        edge(18, "LEFT OUT: of all sets of those that are ON", () -> {
            PowerShares x = crowd(5, 1, 9);
            x.on(0);
            due("out(), 0 is OFF", x.out(), 14);
            x.on(3);
            due("out(), 3 is OFF, too", x.out(), 6);
            x.senders(2);
            due("out(), one there is ON", x.out(), 0);
        });
    }

    // ---- promise 19

    private static void admitted() {
        edge(19, "ADMITTED: those that are ON, in order, each if those ADMITTED ahead and it are FEASIBLE", () -> {
            due("1 is too many, 2 is not", clash(clash(deaf(3), 0, 1, 9), 1, 2, 9).admitted(), 5);
            due("the first keeps all others out", star(5, 0).admitted(), 1);
            due("the last is kept out", star(5, 4).admitted(), 15);
            due("all two by two", crowd(5, 1, 9).admitted(), 1);
            due("0 and 1, 2 and 3", clash(clash(deaf(4), 0, 1, 9), 2, 3, 9).admitted(), 5);
            due("0 and 3, 1 and 2", clash(clash(deaf(4), 0, 3, 9), 1, 2, 9).admitted(), 3);
        });
        edge(19, "those ADMITTED ahead and it are FEASIBLE", () -> {
            for (int n = 2; n <= 5; n++) {
                due("MINOR 0 of " + n, ring(n).admitted(), (1 << n - 1) - 1);
            }
            due("MINOR 1", justFeasible().admitted(), 3);
        });
        edge(19, "ADMITTED, as bits.", () -> {
            for (int n = 1; n <= 5; n++) {
                due("at first, " + n, senders(n).admitted(), (1 << n) - 1);
            }
        });
        edge(19, "ADMITTED: those that are ON, in order", () -> {
            PowerShares x = crowd(5, 1, 9);
            x.on(0);
            due("0 is OFF", x.admitted(), 2);
            x.on(1);
            x.on(2);
            x.on(3);
            due("the last alone", x.admitted(), 16);
            x.on(4);
            due("none ON", x.admitted(), 0);
        });
    }

    // ---- promise 20

    /** Only the last one's WISH, 2, can be made so much less that it helps. */
    private static PowerShares lastHelps(int lastWish) {
        PowerShares x = wishes(deaf(5), 20, 20, 20, 20, lastWish);
        x.gain(0, 0, 2);
        for (int i = 0; i < 5; i++) {
            x.gain(i, (i + 1) % 5, 1);
        }
        return x;
    }

    private static void softer() {
        edge(20, "NONE: they are anyhow, or by none", () -> {
            for (int n = 1; n <= 5; n++) {
                due("at first, " + n, senders(n).softer(), NONE);
            }
            due("MINOR 1", justFeasible().softer(), NONE);
            due("by none", lastHelps(3).softer(), NONE);
            due("by none, far", clash(deaf(2), 0, 1, 9).softer(), NONE);
            // 20 times 5 would be just 0
            due("by none, just", wishes(clash(deaf(2), 0, 1, 1), 20, 6).softer(), NONE);
            PowerShares x = pair();
            x.on(0);
            due("one ON", x.softer(), NONE);
            x.on(1);
            due("none ON", x.softer(), NONE);
        });
        edge(20, "whose WISH, one tenth less (1 at least), makes those that are ON FEASIBLE", () -> {
            due("the last of five", lastHelps(2).softer(), 4);
            due("WISH 20 by 5, less one", wishes(clash(deaf(2), 0, 1, 1), 20, 5).softer(), 0);
            due("WISH 11 by 10, the second", wishes(clash(deaf(2), 0, 1, 1), 11, 10).softer(), 1);
            due("12 by 10: two tenths are too many", wishes(clash(deaf(2), 0, 1, 1), 12, 10).softer(), NONE);
        });
        edge(20, "one tenth less (1 at least)", () -> {
            PowerShares x = wishes(deaf(2), 1, 20);
            x.gain(0, 1, 5);
            x.gain(1, 0, 1);
            due("a WISH of 1 stays 1", x.softer(), 1);
            due("all WISHES 1", wishes(crowd(3, 1, 9), 1, 1, 1).softer(), NONE);
            PowerShares y = wishes(deaf(2), 2, 19);
            y.gain(0, 1, 3);
            y.gain(1, 0, 1);
            due("a WISH of 2 becomes 1", y.softer(), 0);
        });
        edge(20, "makes those that are ON FEASIBLE, of like ones the least", () -> {
            for (int n = 2; n <= 5; n++) {
                due("any of " + n, ring(n).softer(), 0);
            }
            due("1 or 2", clash(deaf(3), 1, 2, 2).softer(), 1);
            due("3 or 4", clash(deaf(5), 3, 4, 2).softer(), 3);
        });
        edge(20, "SOFTER: the SENDER that is ON", () -> {
            PowerShares x = clash(deaf(4), 2, 3, 2);
            x.on(0);
            due("0 is OFF", x.softer(), 2);
            x.on(1);
            due("1 is OFF", x.softer(), 2);
            due("WISH of 2 stays", x.info(2, 0), 5);
            due("feasible() as before", x.feasible(), 0);
            x.on(3);
            due("3 is OFF", x.softer(), NONE);
        });
    }

    // ---- promise 21

    private static void margin() {
        edge(21, "the greatest number t (0 to 8)", () -> {
            for (int n = 1; n <= 5; n++) {
                due("8, at first, " + n, senders(n).margin(), 8);
            }
            due("8, nothing heard", wishes(deaf(5), 20, 20, 20, 20, 20).margin(), 8);
            due("0", clash(deaf(2), 0, 1, 9).margin(), 0);
            due("0, all at the limits", wishes(crowd(5, 1, 9), 20, 20, 20, 20, 20).margin(), 0);
            due("1, OWN 30", wishes(crowd(5, 30, 9), 20, 20, 20, 20, 20).margin(), 1);
        });
        edge(21, "so that they are FEASIBLE with all WISHES times t by 4", () -> {
            // FEASIBLE as long as WISH times t is below 40
            int[] wish = {4, 5, 6, 7, 8, 9, 10, 13, 14, 19, 20};
            int[] want = {8, 7, 6, 5, 4, 4, 3, 3, 2, 2, 1};
            for (int k = 0; k < wish.length; k++) {
                PowerShares x = wishes(clash(deaf(2), 0, 1, 1), wish[k], wish[k]);
                due("margin(), WISHES " + wish[k], x.margin(), want[k]);
                due("WISH stays", x.info(0, 0), wish[k]);
            }
        });
        edge(21, "(in LAWS OWN times 4, then, and WISHES times t)", () -> {
            for (int n = 2; n <= 5; n++) {
                due("MINOR 0 with t 4, " + n, ring(n).margin(), 3);
            }
            // 40 less 18 t: a quarter of a WISH is not rounded
            due("all WISHES 1", wishes(crowd(3, 1, 9), 1, 1, 1).margin(), 2);
            // 1600 less 99 t t
            due("MINOR 1 with t 4", justFeasible().margin(), 4);
            // 1600 less 100 t t, by unlike WISHES
            due("MINOR 0 with t 4, unlike", wishes(clash(deaf(2), 0, 1, 1), 20, 5).margin(), 3);
        });
        edge(21, "MARGIN.", () -> {
            PowerShares x = clash(deaf(3), 1, 2, 9);
            due("all ON", x.margin(), 0);
            x.on(0);
            due("0 is OFF", x.margin(), 0);
            x.on(1);
            due("one ON", x.margin(), 8);
            x.on(2);
            due("none ON", x.margin(), 8);
        });
    }

    // ---- promise 22

    private static void share() {
        edge(22, "SHARE by WHOLE powers, a FRACTION: above, below. BAD", () -> {
            PowerShares x = powers(senders(2), 1, 3);
            due("share(0, 0)", x.share(0, 0), 5);
            due("share(0, 1)", x.share(0, 1), 2);
            due("share(0, 2)", x.share(0, 2), LONG_BAD);
            for (int what : WILD) {
                due("share(0, " + what + ")", x.share(0, what), LONG_BAD);
            }
            powers(x, 0, 3);
            due("0, above", x.share(0, 0), 0);
            due("0, below", x.share(0, 1), 1);
        });
        edge(22, "BAD; NOT: it is OFF, nothing is heard (0).", () -> {
            PowerShares x = powers(noises(senders(2), 0), 7, 3);
            x.on(1);
            due("OFF", x.share(1, 0), LONG_NOT);
            due("OFF, below", x.share(1, 1), LONG_NOT);
            due("OFF, what 2", x.share(1, 2), LONG_BAD);
            due("the other is OFF", x.share(0, 0), LONG_NOT);
            due("the other is OFF, below", x.share(0, 1), LONG_NOT);
            due("the other is OFF, what -1", x.share(0, -1), LONG_BAD);
            x.on(1);
            due("both ON, above", x.share(0, 0), 70);
            due("both ON, below", x.share(0, 1), 3);
            x.gain(0, 1, 0);
            due("GAIN 0", x.share(0, 0), LONG_NOT);
            x.gain(0, 1, 1);
            x.power(1, 0);
            due("power 0", x.share(0, 0), LONG_NOT);
            x.power(1, 1);
            due("just 1, above", x.share(0, 0), 70);
            due("just 1, below", x.share(0, 1), 1);
            x.senders(1);
            due("the other is not there", x.share(0, 0), LONG_NOT);
            x.set(0, 1, 1);
            due("NOISE 1, above", x.share(0, 0), 70);
            due("NOISE 1, below", x.share(0, 1), 1);
            x.set(0, 1, 9);
            due("NOISE 9, above", x.share(0, 0), 70);
            due("NOISE 9, below", x.share(0, 1), 9);
        });
        edge(22, "With powers p the SHARE of i is OWN times its p, by what its receiver hears of all others that are ON", () -> {
            PowerShares x = noises(powers(crowd(5, 30, 9), 999, 999, 999, 999, 999), 9, 9, 9, 9, 9);
            // 29970 by 35973, by 9
            due("the greatest, above", x.share(4, 0), 3330);
            due("the greatest, below", x.share(4, 1), 3997);
            PowerShares y = noises(powers(crowd(5, 30, 9), 999, 0, 0, 0, 1), 1);
            y.gain(0, 4, 0);
            due("by 1, above", y.share(0, 0), 29970);
            due("by 1, below", y.share(0, 1), 1);
            // 30 by 9 times 999 and 1
            due("its own power is not in what is heard, above", y.share(4, 0), 15);
            due("its own power is not in what is heard, below", y.share(4, 1), 4496);
        });
    }
}
