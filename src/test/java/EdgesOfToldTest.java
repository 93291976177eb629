/** Edges of promises 1 to 13: a new object, and what is told. */
public final class EdgesOfToldTest extends Edges {
    public static void main(String[] args) {
        newObject();
        senders();
        gain();
        set();
        on();
        power();
        rule();
        typeAndWipe();
        fault();
        read();
        info();
        heard();
        end("edges of what is told", 1, 2, 3, 4, 5, 6, 7, 8, 9, 10, 11, 12, 13);
    }

    // ---- promise 1

    private static void newObject() {
        edge(1, "Three SENDERS", () -> {
            PowerShares x = new PowerShares();
            due("count(0)", x.count(0), 3);
            due("info(2, 0)", x.info(2, 0), 5);
            due("info(3, 0)", x.info(3, 0), BAD);
            due("senders(3)", x.senders(3), 3);
        });
        edge(1, "all ON", () -> {
            PowerShares x = new PowerShares();
            due("count(1)", x.count(1), 3);
            for (int i = 0; i < 3; i++) {
                due("info(" + i + ", 3)", x.info(i, 3), 1);
            }
            due("on(1)", x.on(1), 5);
        });
        edge(1, "all as told at first", () -> dueAtFirst(new PowerShares(), 3));
        edge(1, "RULE 0", () -> due("rule(2)", new PowerShares().rule(2), 0));
        edge(1, "no ORDER", () -> {
            PowerShares x = new PowerShares();
            due("count(6)", x.count(6), 0);
            due("fault()", x.fault(), NONE);
            due("order()", x.order(), 0);
            due("wipe()", x.wipe(), 0);
            due("type(97)", x.type(97), 1);
        });
        edge(1, "all SHEETS are LOST", () -> {
            for (int s = 0; s < 4; s++) {
                due("read(" + s + ")", new PowerShares().read(s), NULL);
                due("lose(" + s + ")", new PowerShares().lose(s), NULL);
                due("put(" + s + ")", new PowerShares().put(s, 0, 0, 0), NULL);
                due("write(" + s + ")", new PowerShares().write(s), NULL);
                due("copy(" + s + ")", new PowerShares().copy(s, 0, s, 0, 0), NULL);
                PowerShares x = new PowerShares();
                due("get(" + s + ")", x.get(s, 0, 0), LEAST_INT);
                due("its FINDING", x.count(8), 1);
            }
        });
        edge(1, "(0 before any)", () -> due("count(8)", new PowerShares().count(8), 0));
        edge(1, "`PowerShares()`", () -> {
            PowerShares first = filled(typed(powers(senders(5), 9, 9, 9, 9, 9), "abc"), 0, 0, 1, 2);
            first.set(0, 0, 20);
            first.gain(0, 1, 9);
            first.on(0);
            first.rule(2);
            first.lose(3);
            PowerShares next = new PowerShares();
            dueAtFirst(next, 3);
            due("count(6)", next.count(6), 0);
            due("count(8)", next.count(8), 0);
            due("rule(0)", next.rule(0), 0);
            due("lose(0)", next.lose(0), NULL);
            due("of the first, count(6)", first.count(6), 3);
            due("of the first, lose(0)", first.lose(0), 2);
        });
        edge(1, "An object is used for at most 512 calls after it has been made", () -> {
            PowerShares x = new PowerShares();
            for (int call = 1; call <= 512; call++) {
                due("power(2, ..), call " + call, x.power(2, call), call - 1);
            }
        });
    }

    private static void dueAtFirst(PowerShares x, int n) {
        for (int i = 0; i < n; i++) {
            due("WISH of " + i, x.info(i, 0), 5);
            due("NOISE of " + i, x.info(i, 1), 1);
            due("CAP of " + i, x.info(i, 2), 100);
            due("ON of " + i, x.info(i, 3), 1);
            due("power of " + i, x.info(i, 4), 0);
            due("OWN of " + i, x.info(i, 7), 10);
            for (int j = 0; j < n; j++) {
                due("heard(" + i + ", " + j + ")", x.heard(i, j), i == j ? 10 : 1);
            }
        }
    }

    // ---- promise 2

    private static void senders() {
        edge(2, "SENDERS are 0 to N less 1 (N 1 to 5; 3 at first)", () -> {
            PowerShares x = new PowerShares();
            due("senders(1)", x.senders(1), 3);
            due("senders(0)", x.senders(0), BAD);
            due("count(0)", x.count(0), 1);
            due("senders(5)", x.senders(5), 1);
            due("senders(6)", x.senders(6), BAD);
            for (int n : WILD) {
                due("senders(" + n + ")", x.senders(n), BAD);
            }
            due("count(0)", x.count(0), 5);
        });
        edge(2, "N: what it was", () -> {
            PowerShares x = new PowerShares();
            for (int n = 1; n <= 5; n++) {
                int was = n == 1 ? 3 : n - 1;
                due("senders(" + n + ")", x.senders(n), was);
                due("senders(" + n + ") again", x.senders(n), n);
            }
        });
        edge(2, "SENDERS are 0 to N less 1", () -> {
            for (int n = 1; n <= 5; n++) {
                dueThere(senders(n), n - 1);
                dueNotThere(senders(n), n);
                for (int i : WILD) {
                    dueNotThere(senders(n), i);
                }
            }
        });
        edge(2, "(what was told of others stays)", () -> {
            PowerShares x = tellAllOfFour(senders(5));
            due("senders(1)", x.senders(1), 5);
            due("senders(5)", x.senders(5), 1);
            due("WISH of 4", x.info(4, 0), 17);
            due("NOISE of 4", x.info(4, 1), 8);
            due("CAP of 4", x.info(4, 2), 432);
            due("ON of 4", x.info(4, 3), 0);
            due("power of 4", x.info(4, 4), 77);
            due("heard(4, 4)", x.heard(4, 4), 23);
            due("heard(4, 1)", x.heard(4, 1), 6);
            due("heard(1, 4)", x.heard(1, 4), 7);
            due("bits of those ON", x.on(0), 14);
        });
        edge(2, "what was told of others stays", () -> {
            PowerShares x = typed(senders(5), "ae");
            x.rule(2);
            filled(x, 3, 1, 4, 5, 6);
            x.senders(1);
            due("count(6)", x.count(6), 2);
            due("fault()", x.fault(), 1);
            x.senders(5);
            due("fault() of five", x.fault(), NONE);
            due("rule(0)", x.rule(0), 2);
            dueItems("senders()", x, 3, 1, 4, 5, 6);
        });
        edge(2, "3 at first", () -> dueAtFirst(senders(5), 5));
    }

    private static PowerShares tellAllOfFour(PowerShares x) {
        x.set(4, 0, 17);
        x.set(4, 1, 8);
        x.set(4, 2, 432);
        x.on(4);
        x.power(4, 77);
        x.gain(4, 4, 23);
        x.gain(4, 1, 6);
        x.gain(1, 4, 7);
        return x;
    }

    private static void dueThere(PowerShares x, int i) {
        String of = " of " + i + " among " + x.count(0);
        due("gain" + of, x.gain(i, i, 10), 10);
        due("set" + of, x.set(i, 0, 5), 5);
        due("power" + of, x.power(i, 0), 0);
        due("info" + of, x.info(i, 0), 5);
        due("heard" + of, x.heard(i, i), 10);
        due("step" + of, x.step(i), 1);
        due("rest" + of, x.rest(i), 1);
        due("least" + of, x.least(i, 0), 1);
        due("share" + of, x.share(i, 0), 10);
        due("on" + of, x.on(i), (1 << x.count(0)) - 1 - (1 << i));
    }

    private static void dueNotThere(PowerShares x, int i) {
        String of = " of " + i + " among " + x.count(0);
        due("gain" + of, x.gain(i, 0, 1), BAD);
        due("gain by" + of, x.gain(0, i, 1), BAD);
        due("gain of itself" + of, x.gain(i, i, 1), BAD);
        for (int what = 0; what < 3; what++) {
            due("set" + of, x.set(i, what, 1), BAD);
        }
        due("on" + of, x.on(i), BAD);
        due("power" + of, x.power(i, 0), BAD);
        for (int what = 0; what < 8; what++) {
            due("info" + of, x.info(i, what), BAD);
        }
        due("heard" + of, x.heard(i, 0), BAD);
        due("heard by" + of, x.heard(0, i), BAD);
        for (int what = 0; what < 2; what++) {
            due("least" + of, x.least(i, what), LONG_BAD);
            due("share" + of, x.share(i, what), LONG_BAD);
        }
        due("step" + of, x.step(i), BAD);
        due("rest" + of, x.rest(i), BAD);
    }

    // ---- promise 3

    private static void gain() {
        edge(3, "of i itself (OWN) 1 to 30 (10 at first)", () -> {
            for (int i = 0; i < 5; i++) {
                dueOwnGains(senders(5), i);
            }
        });
        edge(3, "of another one 0 to 9 (1 at first)", () -> {
            for (int i = 0; i < 5; i++) {
                for (int j = 0; j < 5; j++) {
                    if (i != j) {
                        dueOtherGains(senders(5), i, j);
                    }
                }
            }
        });
        edge(3, "GAIN of i and j: how well the receiver of i hears j", () -> {
            PowerShares x = new PowerShares();
            x.gain(0, 2, 7);
            dueGains("gain(0, 2, 7)", x, new int[][] {{10, 1, 7}, {1, 10, 1}, {1, 1, 10}});
            x.gain(2, 1, 0);
            dueGains("gain(2, 1, 0)", x, new int[][] {{10, 1, 7}, {1, 10, 1}, {1, 0, 10}});
        });
        edge(3, "GAIN: what it was. BAD.", () -> {
            PowerShares x = new PowerShares();
            due("gain(1, 1, 30)", x.gain(1, 1, 30), 10);
            due("gain(1, 1, 30) again", x.gain(1, 1, 30), 30);
            due("gain(1, 1, 31)", x.gain(1, 1, 31), BAD);
            due("gain(1, 1, 1), behind a refusal", x.gain(1, 1, 1), 30);
            due("gain(1, 0, 0)", x.gain(1, 0, 0), 1);
            due("gain(1, 0, 10)", x.gain(1, 0, 10), BAD);
            due("gain(1, 0, 9), behind a refusal", x.gain(1, 0, 9), 0);
        });
    }

    private static void dueOwnGains(PowerShares x, int i) {
        int was = 10;
        for (int v = -2; v <= 33; v++) {
            boolean may = v >= 1 && v <= 30;
            due("gain(" + i + ", " + i + ", " + v + ")", x.gain(i, i, v), may ? was : BAD);
            was = may ? v : was;
        }
        due("gain, least int", x.gain(i, i, LEAST_INT), BAD);
        due("gain, most int", x.gain(i, i, MOST_INT), BAD);
        due("OWN then", x.info(i, 7), 30);
    }

    private static void dueOtherGains(PowerShares x, int i, int j) {
        int was = 1;
        for (int v = -2; v <= 12; v++) {
            boolean may = v >= 0 && v <= 9;
            due("gain(" + i + ", " + j + ", " + v + ")", x.gain(i, j, v), may ? was : BAD);
            was = may ? v : was;
        }
        due("gain, least int", x.gain(i, j, LEAST_INT), BAD);
        due("gain, most int", x.gain(i, j, MOST_INT), BAD);
        due("GAIN then", x.heard(i, j), 9);
    }

    // ---- promise 4

    private static void set() {
        edge(4, "WISH of a SENDER: 1 to 20 tenths (5 at first)", () -> dueSettings(0, 1, 20, 5));
        edge(4, "NOISE of its receiver 0 to 9 (1 at first)", () -> dueSettings(1, 0, 9, 1));
        edge(4, "CAP 0 to 999 (100 at first)", () -> dueSettings(2, 0, 999, 100));
        edge(4, "WISH (what = 0), NOISE (1), CAP (2) of a SENDER: what it was. BAD.", () -> {
            PowerShares x = new PowerShares();
            due("set(0, 3, 1)", x.set(0, 3, 1), BAD);
            for (int what : WILD) {
                due("set(0, " + what + ", 1)", x.set(0, what, 1), BAD);
            }
            dueAtFirst(x, 3);
        });
        edge(4, "WISH (what = 0), NOISE (1), CAP (2) of a SENDER", () -> {
            PowerShares x = senders(5);
            for (int i = 0; i < 5; i++) {
                x.set(i, 0, i + 6);
                x.set(i, 1, i + 2);
                x.set(i, 2, i + 500);
            }
            for (int i = 0; i < 5; i++) {
                due("WISH of " + i, x.info(i, 0), i + 6);
                due("NOISE of " + i, x.info(i, 1), i + 2);
                due("CAP of " + i, x.info(i, 2), i + 500);
            }
        });
        edge(4, "those that are OFF send nothing, and are not looked at", () -> {
            PowerShares x = new PowerShares();
            x.on(1);
            due("set(1, 0, 20), OFF", x.set(1, 0, 20), 5);
            due("gain(1, 1, 30), OFF", x.gain(1, 1, 30), 10);
            due("info(1, 0), OFF", x.info(1, 0), 20);
        });
    }

    private static void dueSettings(int what, int low, int high, int first) {
        for (int i = 0; i < 5; i++) {
            PowerShares x = senders(5);
            due("set(" + i + ", " + what + ", low)", x.set(i, what, low), first);
            due("set, below " + low, x.set(i, what, low - 1), BAD);
            due("it stays", x.info(i, what), low);
            due("set, high", x.set(i, what, high), low);
            due("set, above " + high, x.set(i, what, high + 1), BAD);
            due("set, least int", x.set(i, what, LEAST_INT), BAD);
            due("set, most int", x.set(i, what, MOST_INT), BAD);
            due("it stays", x.info(i, what), high);
            due("the same again", x.set(i, what, high), high);
            due("of the next one", x.info((i + 1) % 5, what), first);
        }
    }

    // ---- promise 5

    private static void on() {
        edge(5, "It is ON, if it was OFF, else OFF", () -> {
            PowerShares x = new PowerShares();
            due("on(2)", x.on(2), 3);
            due("info(2, 3)", x.info(2, 3), 0);
            due("on(2) again", x.on(2), 7);
            due("info(2, 3) again", x.info(2, 3), 1);
        });
        edge(5, "which are ON, as bits", () -> {
            PowerShares x = senders(5);
            int[] bits = {30, 28, 24, 16, 0};
            for (int i = 0; i < 5; i++) {
                due("on(" + i + ")", x.on(i), bits[i]);
            }
            due("count(1), none", x.count(1), 0);
            due("on(4) from none", x.on(4), 16);
            due("of one alone, OFF", senders(1).on(0), 0);
        });
        edge(5, "which are ON, as bits. BAD.", () -> {
            PowerShares x = new PowerShares();
            due("on(3)", x.on(3), BAD);
            due("on(-1)", x.on(-1), BAD);
            due("on(32), a shift that comes back to 0", x.on(32), BAD);
            due("count(1)", x.count(1), 3);
            x.senders(5);
            x.on(3);
            x.senders(3);
            due("on(0) of three, others not told", x.on(0), 6);
            x.senders(5);
            due("3 is still OFF", x.info(3, 3), 0);
        });
    }

    // ---- promise 6

    private static void power() {
        edge(6, "Its WHOLE power (0 to 999): what it was. BAD.", () -> {
            for (int i = 0; i < 5; i++) {
                PowerShares x = senders(5);
                due("power(" + i + ", 999)", x.power(i, 999), 0);
                due("power, 1000", x.power(i, 1000), BAD);
                due("power, most int", x.power(i, MOST_INT), BAD);
                due("power, 0", x.power(i, 0), 999);
                due("power, -1", x.power(i, -1), BAD);
                due("power, least int", x.power(i, LEAST_INT), BAD);
                due("power, 5", x.power(i, 5), 0);
                due("of the next one", x.info((i + 1) % 5, 4), 0);
            }
        });
        edge(6, "WHOLE powers are kept of each SENDER (0 at first; those that are OFF keep theirs, and send nothing)", () -> {
            PowerShares x = new PowerShares();
            x.power(1, 40);
            x.on(1);
            due("kept when OFF", x.info(1, 4), 40);
            due("told while OFF", x.power(1, 41), 40);
            x.on(1);
            due("kept when ON again", x.info(1, 4), 41);
        });
        edge(6, "Its WHOLE power (0 to 999)", () -> {
            PowerShares x = caps(new PowerShares(), 0, 5);
            due("above CAP 0", x.power(0, 999), 0);
            due("it is", x.info(0, 4), 999);
            due("above CAP 5", x.power(1, 6), 0);
            due("it is", x.info(1, 4), 6);
        });
    }

    // ---- promise 7

    private static void rule() {
        edge(7, "RULE (0 to 2): what it was. BAD.", () -> {
            PowerShares x = new PowerShares();
            due("rule(2)", x.rule(2), 0);
            due("rule(3)", x.rule(3), BAD);
            for (int v : WILD) {
                due("rule(" + v + ")", x.rule(v), BAD);
            }
            due("rule(0)", x.rule(0), 2);
            due("rule(1)", x.rule(1), 0);
            due("rule(1) again", x.rule(1), 1);
        });
    }

    // ---- promises 8 and 9

    private static void typeAndWipe() {
        edge(8, "A byte (0 to 255) comes behind THE ORDER: how many", () -> {
            PowerShares x = new PowerShares();
            due("type(0)", x.type(0), 1);
            due("type(-1)", x.type(-1), BAD);
            due("type(255)", x.type(255), 2);
            due("type(256)", x.type(256), BAD);
            due("type(353), a in the lowest bits", x.type(353), BAD);
            due("type, least int", x.type(LEAST_INT), BAD);
            due("type, most int", x.type(MOST_INT), BAD);
            due("count(6)", x.count(6), 2);
        });
        edge(8, "THE ORDER is a text of up to 12 bytes", () -> {
            PowerShares x = new PowerShares();
            for (int k = 1; k <= 12; k++) {
                due("type, byte " + k, x.type(97), k);
            }
            due("type, the thirteenth", x.type(98), FULL);
            due("type, again", x.type(97), FULL);
            due("count(6)", x.count(6), 12);
        });
        edge(8, "BAD; FULL.", () -> {
            PowerShares x = typed(new PowerShares(), "aaaaaaaaaaaa");
            due("type(256)", x.type(256), BAD);
            due("type(-1)", x.type(-1), BAD);
            due("type(255)", x.type(255), FULL);
            due("fault(), FULL changed nothing", x.fault(), NONE);
            due("count(6)", x.count(6), 12);
        });
        edge(8, "A byte (0 to 255) comes behind THE ORDER", () -> {
            PowerShares x = typed(pair(), "a");
            x.type('b');
            due("order()", x.order(), 2);
            duePowers("ab", x, 1, 2);
        });
        edge(9, "THE ORDER is empty: how many bytes it had.", () -> {
            PowerShares x = new PowerShares();
            due("wipe(), empty", x.wipe(), 0);
            typed(x, "aaaaaaaaaaaa");
            due("wipe(), full", x.wipe(), 12);
            due("wipe() again", x.wipe(), 0);
            due("type behind it", x.type(97), 1);
            due("wipe(), one", x.wipe(), 1);
        });
        edge(9, "THE ORDER is empty", () -> {
            PowerShares x = typed(new PowerShares(), "Z");
            due("fault()", x.fault(), 0);
            due("wipe(), with a FAULT", x.wipe(), 1);
            due("fault() then", x.fault(), NONE);
            due("count(6)", x.count(6), 0);
            due("order()", x.order(), 0);
            typed(x, "b");
            due("order(), nothing of the former text", x.order(), 1);
            duePowers("b", x, 0, 1, 0);
        });
    }

    // ---- promise 10

    private static void fault() {
        edge(10, "letters a to e (SENDERS), each a STEP; its FAULT is the place of the first byte that is none of a SENDER that there is", () -> {
            for (int n = 1; n <= 5; n++) {
                for (int b = 0; b < 256; b++) {
                    PowerShares x = senders(n);
                    x.type(b);
                    due("fault() of byte " + b + " among " + n, x.fault(), b >= 97 && b < 97 + n ? NONE : 0);
                }
            }
        });
        edge(10, "the place of the first byte that is none of a SENDER that there is", () -> {
            for (int place = 0; place < 12; place++) {
                PowerShares x = new PowerShares();
                for (int k = 0; k < 12; k++) {
                    x.type(k == place || k == 11 ? 'd' : 'a' + k % 3);
                }
                due("fault(), the first at " + place, x.fault(), place);
            }
        });
        edge(10, "of a SENDER that there is", () -> {
            PowerShares x = typed(senders(5), "edcba");
            int[] places = {0, 0, 0, 0, NONE};
            int[] turned = {1, 2, 3, 4, NONE};
            PowerShares y = typed(senders(5), "abcde");
            for (int n = 1; n <= 5; n++) {
                x.senders(n);
                y.senders(n);
                due("fault() of edcba among " + n, x.fault(), places[n - 1]);
                due("fault() of abcde among " + n, y.fault(), turned[n - 1]);
            }
        });
        edge(10, "The FAULT; NONE.", () -> {
            PowerShares x = new PowerShares();
            due("fault(), empty", x.fault(), NONE);
            typed(x, "abcabcabcabc");
            due("fault(), full of SENDERS", x.fault(), NONE);
            x.on(0);
            x.on(1);
            x.on(2);
            due("fault(), OFF", x.fault(), NONE);
        });
    }

    // ---- promise 11

    private static void read() {
        edge(11, "GAINS of one SENDER behind another, row by row, from a SHEET", () -> {
            PowerShares x = filled(senders(2), 0, 0, 3, 4, 5, 6);
            due("read(0)", x.read(0), 4);
            dueGains("read", x, new int[][] {{3, 4}, {5, 6}});
            dueItems("read", x, 0, 0, 3, 4, 5, 6);
        });
        edge(11, "N times N at most: how many", () -> {
            for (int n = 1; n <= 5; n++) {
                for (int size = n * n - 1; size <= n * n + 1; size++) {
                    dueReadAtMost(n, size);
                }
                dueReadAtMost(n, 60);
            }
        });
        edge(11, "its items, as long as each may be", () -> {
            for (int place = 0; place < 9; place++) {
                boolean own = place % 4 == 0;
                dueReadUntil(place, own ? 0 : -1);
                dueReadUntil(place, own ? 31 : 10);
                dueReadUntil(place, 256 + 5);
                dueReadUntil(place, (1 << 16) + 5);
                dueReadUntil(place, LEAST_INT);
                dueReadUntil(place, MOST_INT);
            }
        });
        edge(11, "as long as each may be", () -> {
            PowerShares x = filled(senders(2), 1, 1, 1, 0, 9, 30);
            due("read, at the limits", x.read(1), 4);
            dueGains("read", x, new int[][] {{1, 0}, {9, 30}});
            filled(x, 1, 1, 30, 9, 0, 1);
            due("read, at the other limits", x.read(1), 4);
            dueGains("read", x, new int[][] {{30, 9}, {0, 1}});
            filled(x, 1, 0, 4, 133, 5, 5);
            due("read, a byte below 0 by its sign", x.read(1), 1);
            dueGains("read", x, new int[][] {{4, 9}, {0, 1}});
        });
        edge(11, "a row of a FORM: 0 bytes, 1 shorts, 2 ints, of 0 to 60 items", () -> {
            for (int form = 0; form < 3; form++) {
                PowerShares x = filled(senders(2), 2, form);
                due("read, no items, FORM " + form, x.read(2), 0);
                dueGains("read", x, new int[][] {{10, 1}, {1, 10}});
                filled(x, 2, form, 7);
                due("read, one item, FORM " + form, x.read(2), 1);
                dueGains("read", x, new int[][] {{7, 1}, {1, 10}});
            }
        });
        edge(11, "how many. BAD; NULL.", () -> {
            PowerShares x = new PowerShares();
            due("read(4)", x.read(4), BAD);
            for (int s : WILD) {
                due("read(" + s + ")", x.read(s), BAD);
            }
            due("no FINDING", x.count(8), 0);
            due("read(3), LOST", x.read(3), NULL);
            due("its FINDING", x.count(8), 1);
            filled(x, 3, 0, 6);
            due("read(3)", x.read(3), 1);
            due("the FINDING stays", x.count(8), 1);
        });
    }

    private static void dueReadAtMost(int n, int size) {
        PowerShares x = filled(senders(5), 0, 2, times(size, 7));
        x.senders(n);
        int many = Math.min(size, n * n);
        due("read, " + size + " items among " + n, x.read(0), many);
        x.senders(5);
        for (int i = 0; i < 5; i++) {
            for (int j = 0; j < 5; j++) {
                boolean came = i < n && j < n && i * n + j < many;
                due("heard(" + i + ", " + j + ")", x.heard(i, j), came ? 7 : i == j ? 10 : 1);
            }
        }
    }

    private static void dueReadUntil(int place, int wrongItem) {
        int[] items = times(9, 5);
        items[place] = wrongItem;
        PowerShares x = filled(new PowerShares(), 0, 2, items);
        due("read, item " + place + " is " + wrongItem, x.read(0), place);
        for (int k = 0; k < 9; k++) {
            due("gain " + k + ", item " + place + " is " + wrongItem, x.heard(k / 3, k % 3),
                    k < place ? 5 : k % 4 == 0 ? 10 : 1);
        }
    }

    // ---- promise 12

    private static void info() {
        edge(12, "OWN (7). BAD.", () -> {
            PowerShares x = new PowerShares();
            due("info(0, 7)", x.info(0, 7), 10);
            due("info(0, 8)", x.info(0, 8), BAD);
            for (int what : WILD) {
                due("info(0, " + what + ")", x.info(0, what), BAD);
            }
            x.gain(0, 0, 30);
            due("OWN 30", x.info(0, 7), 30);
            x.gain(0, 0, 1);
            due("OWN 1", x.info(0, 7), 1);
        });
        edge(12, "whether it is ON (3: 1, 0)", () -> {
            PowerShares x = senders(5);
            x.on(4);
            due("info(4, 3)", x.info(4, 3), 0);
            due("info(3, 3)", x.info(3, 3), 1);
        });
        edge(12, "NEED of i: the least whole power with which it HAS its WISH, others as they are", () -> {
            // WISH 5, OWN 10: a twentieth of what is heard
            PowerShares x = noises(senders(2), 0);
            int[] heard = {0, 1, 19, 20, 21, 40, 41, 999};
            int[] need = {0, 1, 1, 1, 2, 2, 3, 50};
            for (int k = 0; k < heard.length; k++) {
                x.power(1, heard[k]);
                due("NEED, " + heard[k] + " heard", x.info(0, 5), need[k]);
                x.power(0, need[k]);
                due("HAS with NEED", x.info(0, 6), 1);
                x.power(0, Math.max(need[k] - 1, 0));
                due("HAS with one less", x.info(0, 6), need[k] == 0 ? 1 : 0);
            }
        });
        edge(12, "the least whole power with which it HAS its WISH, others as they are", () -> {
            PowerShares x = powers(pair(), 0, 999);
            due("NEED above CAP and above 999", x.info(0, 5), 1000);
            PowerShares y = deaf(5);
            for (int i = 1; i < 5; i++) {
                y.gain(0, i, 9);
            }
            noises(wishes(powers(y, 999, 999, 999, 999, 999), 20), 9);
            due("the greatest NEED", y.info(0, 5), 71946);
            PowerShares z = noises(wishes(senders(1), 1), 1);
            z.gain(0, 0, 30);
            due("the least NEED above 0", z.info(0, 5), 1);
            z.set(0, 1, 0);
            due("NEED of nothing", z.info(0, 5), 0);
        });
        edge(12, "of all others that are ON (GAIN times their p, added) and its NOISE together", () -> {
            PowerShares x = powers(noises(deaf(5), 3), 900, 10, 20, 40, 80);
            for (int j = 1; j < 5; j++) {
                x.gain(0, j, j);
            }
            // 3, and 10, 40, 120, 320; a half of it, rounded up
            due("NEED", x.info(0, 5), 247);
            x.on(4);
            due("NEED, 4 is OFF", x.info(0, 5), 87);
            x.senders(3);
            due("NEED, 3 is not there", x.info(0, 5), 27);
            x.senders(1);
            due("NEED, alone", x.info(0, 5), 2);
        });
        edge(12, "It HAS its WISH, if ten times OWN times its p is no less than its WISH times that", () -> {
            PowerShares x = powers(senders(2), 1, 19);
            due("just", x.info(0, 6), 1);
            x.power(1, 20);
            due("one above", x.info(0, 6), 0);
            PowerShares y = noises(wishes(deaf(1), 20), 9);
            due("HAS with 0", y.info(0, 6), 0);
            y.power(0, 17);
            due("HAS with 17", y.info(0, 6), 0);
            y.power(0, 18);
            due("HAS with 18", y.info(0, 6), 1);
            y.power(0, 999);
            due("HAS with 999", y.info(0, 6), 1);
            y.set(0, 1, 0);
            y.power(0, 0);
            due("HAS with 0 where nothing is heard", y.info(0, 6), 1);
        });
        edge(12, "whether it HAS its WISH (6: 1, 0; of one that is OFF 0)", () -> {
            PowerShares x = powers(new PowerShares(), 999, 0, 0);
            due("ON", x.info(0, 6), 1);
            x.on(0);
            due("OFF", x.info(0, 6), 0);
            due("its power", x.info(0, 4), 999);
            x.set(0, 1, 0);
            x.power(0, 0);
            due("OFF, nothing heard", x.info(0, 6), 0);
        });
        edge(12, "NEED (5)", () -> {
            PowerShares x = powers(new PowerShares(), 999, 30, 29);
            due("NEED, ON", x.info(0, 5), 3);
            x.on(0);
            due("NEED, OFF", x.info(0, 5), 3);
        });
    }

    // ---- promise 13

    private static void heard() {
        edge(13, "`int heard(int i, int j)`: GAIN. BAD.", () -> {
            for (int n = 1; n <= 5; n++) {
                PowerShares x = senders(n);
                for (int i = -1; i <= 6; i++) {
                    for (int j = -1; j <= 6; j++) {
                        boolean there = i >= 0 && i < n && j >= 0 && j < n;
                        due("heard(" + i + ", " + j + ") among " + n, x.heard(i, j), !there ? BAD : i == j ? 10 : 1);
                    }
                }
            }
        });
        edge(13, "GAIN. BAD.", () -> {
            PowerShares x = senders(5);
            x.gain(4, 0, 0);
            x.gain(0, 4, 9);
            x.gain(4, 4, 30);
            due("heard(4, 0)", x.heard(4, 0), 0);
            due("heard(0, 4)", x.heard(0, 4), 9);
            due("heard(4, 4)", x.heard(4, 4), 30);
            x.on(4);
            due("heard(0, 4), OFF", x.heard(0, 4), 9);
            for (int i : WILD) {
                due("heard(" + i + ", 0)", x.heard(i, 0), BAD);
                due("heard(0, " + i + ")", x.heard(0, i), BAD);
                due("heard of both", x.heard(i, i), BAD);
            }
        });
    }
}
