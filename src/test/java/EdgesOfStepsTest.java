/** Edges of promises 23 to 28: what goes step by step. */
public final class EdgesOfStepsTest extends Edges {
    public static void main(String[] args) {
        step();
        turn();
        halfway();
        order();
        still();
        rest();
        met();
        end("edges of steps", 23, 24, 25, 26, 27, 28);
    }

    // ---- promise 23

    private static void step() {
        edge(23, "A STEP of a SENDER that is ON: its power becomes NEED, or CAP, if that is less", () -> {
            // NEED is 10
            int[] cap = {0, 1, 9, 10, 11, 999};
            int[] then = {0, 1, 9, 10, 10, 10};
            for (int before : new int[] {0, 9, 10, 11, 999}) {
                for (int k = 0; k < cap.length; k++) {
                    PowerShares x = caps(powers(pair(), before, 9), cap[k]);
                    due("step(0), from " + before + ", CAP " + cap[k], x.step(0), then[k]);
                    duePowers("that", x, then[k], 9);
                }
            }
        });
        edge(23, "its power becomes NEED, or CAP, if that is less", () -> {
            PowerShares x = powers(noises(pair(), 0), 50, 0);
            due("NEED 0", x.step(0), 0);
            PowerShares y = caps(powers(pair(), 0, 999), 999);
            due("NEED 1000, CAP 999", y.step(0), 999);
        });
        edge(23, "A STEP: its power then. BAD; NOT: it is OFF.", () -> {
            PowerShares x = powers(pair(), 7, 9);
            x.on(0);
            due("step(0), OFF", x.step(0), NOT);
            due("step(2)", x.step(2), BAD);
            for (int i : WILD) {
                due("step(" + i + ")", x.step(i), BAD);
            }
            duePowers("refusals", x, 7, 9);
            due("step(1), the other is OFF", x.step(1), 1);
            x.senders(1);
            due("step(1), not there", x.step(1), BAD);
        });
        edge(23, "A STEP: its power then", () -> {
            for (int rule = 0; rule < 3; rule++) {
                PowerShares x = powers(pair(), 0, 8);
                x.rule(rule);
                due("step(0) by RULE " + rule, x.step(0), 9);
                due("step(0) again", x.step(0), 9);
                due("step(1)", x.step(1), 10);
            }
        });
    }

    // ---- promise 24

    private static void turn() {
        edge(24, "A TURN is a STEP of all that are ON at once (each by powers as they were), by RULE 0 (at first)", () -> {
            PowerShares x = powers(pair(), 7, 3);
            due("turn()", x.turn(), 2);
            duePowers("turn()", x, 4, 8);
            PowerShares y = powers(ring(5), 1, 2, 3, 4, 5);
            due("turn() of a ring", y.turn(), 5);
            duePowers("turn() of a ring", y, 3, 4, 5, 6, 2);
        });
        edge(24, "by RULE 1 one behind another, from 0 on", () -> {
            PowerShares x = powers(pair(), 7, 3);
            x.rule(1);
            due("turn()", x.turn(), 2);
            duePowers("turn()", x, 4, 5);
            PowerShares y = powers(ring(5), 1, 2, 3, 4, 5);
            y.rule(1);
            due("turn() of a ring", y.turn(), 5);
            duePowers("turn() of a ring", y, 3, 4, 5, 6, 4);
        });
        edge(24, "A TURN: how many powers changed.", () -> {
            for (int rule = 0; rule < 3; rule++) {
                PowerShares x = powers(new PowerShares(), 1, 1, 1);
                x.rule(rule);
                due("turn(), none changes, RULE " + rule, x.turn(), 0);
                powers(x, 3, 1, 1);
                due("turn(), one changes, RULE " + rule, x.turn(), 1);
                duePowers("turn()", x, rule == 2 ? 2 : 1, 1, 1);
                x = senders(5);
                x.rule(rule);
                due("turn(), all five change, RULE " + rule, x.turn(), 5);
                x = senders(1);
                x.rule(rule);
                due("turn(), one alone, RULE " + rule, x.turn(), 1);
                due("turn() again, RULE " + rule, x.turn(), 0);
            }
        });
        edge(24, "those that are OFF keep theirs, and send nothing", () -> {
            for (int rule = 0; rule < 3; rule++) {
                PowerShares x = powers(pair(), 500, 1);
                x.rule(rule);
                x.on(0);
                due("turn(), one is OFF, RULE " + rule, x.turn(), 0);
                duePowers("that", x, 500, 1);
                x.on(1);
                due("turn(), none ON, RULE " + rule, x.turn(), 0);
                duePowers("that", x, 500, 1);
            }
        });
        edge(24, "A TURN: how many powers changed", () -> {
            for (int rule = 0; rule < 3; rule++) {
                PowerShares x = powers(ring(5), 1, 2, 300, 400, 500);
                x.rule(rule);
                x.senders(2);
                x.turn();
                x.senders(5);
                due("power of 2, not there, RULE " + rule, x.info(2, 4), 300);
                due("power of 3, not there, RULE " + rule, x.info(3, 4), 400);
                due("power of 4, not there, RULE " + rule, x.info(4, 4), 500);
                due("power of 1, which heard none, RULE " + rule, x.info(1, 4), rule == 2 ? 2 : 1);
            }
        });
        edge(24, "its power becomes NEED, or CAP, if that is less", () -> {
            for (int rule = 0; rule < 2; rule++) {
                PowerShares x = caps(powers(pair(), 999, 999), 0, 999);
                x.rule(rule);
                due("turn() by RULE " + rule, x.turn(), rule == 0 ? 1 : 2);
                duePowers("turn() by RULE " + rule, x, 0, rule == 0 ? 999 : 1);
            }
        });
    }

    private static void halfway() {
        edge(24, "by RULE 2 as RULE 0, but halfway: the power as it was and as it would be together, by 2, rounded up", () -> {
            // one alone with CAP below NEED: it would be at its CAP
            int[][] fromToThen = {{0, 0, 0}, {0, 1, 1}, {0, 2, 1}, {0, 3, 2}, {1, 0, 1}, {2, 0, 1}, {3, 0, 2}, {2, 1, 2},
                {5, 5, 5}, {999, 0, 500}, {999, 1, 500}, {999, 18, 509}, {998, 0, 499}};
            for (int[] row : fromToThen) {
                PowerShares x = caps(noises(wishes(deaf(1), 20), 9), row[1]);
                x.power(0, row[0]);
                x.rule(2);
                due("turn() from " + row[0] + " to " + row[1], x.turn(), row[0] == row[2] ? 0 : 1);
                duePowers("turn() from " + row[0] + " to " + row[1], x, row[2]);
            }
        });
        edge(24, "by RULE 2 as RULE 0", () -> {
            // would be 4 and 8
            PowerShares x = powers(pair(), 7, 3);
            x.rule(2);
            due("turn()", x.turn(), 2);
            duePowers("turn()", x, 6, 6);
            PowerShares y = powers(ring(5), 10, 20, 30, 40, 50);
            y.rule(2);
            due("turn() of a ring", y.turn(), 5);
            duePowers("turn() of a ring", y, 16, 26, 36, 46, 31);
        });
    }

    // ---- promise 25

    private static void order() {
        edge(25, "STEPS of THE ORDER, one behind another: how many changed a power.", () -> {
            PowerShares x = pair();
            due("empty", x.order(), 0);
            duePowers("empty", x, 0, 0);
            typed(x, "aa");
            due("aa", x.order(), 1);
            duePowers("aa", x, 1, 0);
            due("aa again", x.order(), 0);
            due("the text stays", x.wipe(), 2);
            typed(x, "abababababab");
            due("twelve, the first changes nothing", x.order(), 11);
            duePowers("twelve", x, 11, 12);
            due("twelve again", x.order(), 12);
            duePowers("twelve again", x, 23, 24);
        });
        edge(25, "with a FAULT it is as if it was empty", () -> {
            for (String text : new String[] {"cab", "acb", "abc", "ab ", "abA", "abababababac", "e"}) {
                PowerShares x = typed(powers(pair(), 40, 50), text);
                due(text, x.order(), 0);
                duePowers(text, x, 40, 50);
                due("its bytes", x.count(6), text.length());
            }
            PowerShares y = typed(powers(pair(), 40, 50), "abc");
            y.senders(3);
            due("abc of three", y.order(), 3);
        });
        edge(25, "STEPS of those that are OFF do nothing", () -> {
            PowerShares x = typed(powers(pair(), 40, 50), "aba");
            x.on(0);
            due("0 is OFF", x.order(), 1);
            duePowers("that", x, 40, 1);
            x.on(1);
            due("none ON", x.order(), 0);
            duePowers("that", x, 40, 1);
            x.on(0);
            due("0 alone", x.order(), 1);
            duePowers("that", x, 1, 1);
        });
        edge(25, "letters a to e (SENDERS), each a STEP", () -> {
            PowerShares x = typed(powers(ring(5), 1, 2, 3, 4, 5), "edcba");
            due("edcba", x.order(), 5);
            duePowers("edcba", x, 6, 5, 4, 3, 2);
            for (int rule = 0; rule < 3; rule++) {
                PowerShares y = caps(typed(powers(pair(), 0, 20), "a"), 15);
                y.rule(rule);
                due("a whole STEP by RULE " + rule, y.order(), 1);
                duePowers("it, to CAP", y, 15, 20);
            }
        });
    }

    // ---- promise 26

    /** Both go up by one with each TURN (by RULE 1 by two) until they are at their CAPS. */
    private static PowerShares climb(int rule, int cap) {
        PowerShares x = caps(pair(), cap, cap);
        x.rule(rule);
        return x;
    }

    private static void still() {
        edge(26, "up to 200; NONE: more", () -> {
            for (int rule = 0; rule <= 2; rule += 2) {
                int[] cap = {0, 1, 2, 199, 200, 201, 202, 999};
                int[] still = {0, 1, 2, 199, 200, NONE, NONE, NONE};
                for (int k = 0; k < cap.length; k++) {
                    due("still() by RULE " + rule + ", CAP " + cap[k], climb(rule, cap[k]).still(), still[k]);
                }
            }
            int[] cap = {0, 1, 2, 397, 398, 399, 400, 401};
            int[] still = {0, 1, 2, 199, 200, 200, NONE, NONE};
            for (int k = 0; k < cap.length; k++) {
                due("still() by RULE 1, CAP " + cap[k], climb(1, cap[k]).still(), still[k]);
            }
        });
        edge(26, "how many TURNS, one behind another, change anything, from the powers as they are", () -> {
            due("nothing changes", powers(new PowerShares(), 1, 1, 1).still(), 0);
            PowerShares x = pair();
            x.set(1, 1, 0);
            due("only one at a time changes, 200 TURNS", x.still(), 200);
            x.set(0, 2, 101);
            due("201 TURNS", x.still(), NONE);
            PowerShares y = powers(noises(pair(), 0, 0), 7, 9);
            due("they change places for ever", y.still(), NONE);
            y.rule(1);
            due("one behind another, they are alike at once", y.still(), 1);
            y.power(0, 9);
            due("alike", y.still(), 0);
            // from 150 on there are 50 TURNS to CAP 200
            due("from 150 on", caps(powers(pair(), 150, 150), 200, 200).still(), 50);
        });
        edge(26, "(nothing stays of it)", () -> {
            for (int rule = 0; rule < 3; rule++) {
                PowerShares x = climb(rule, 999);
                powers(x, 3, 5);
                due("still(), RULE " + rule, x.still(), NONE);
                duePowers("still(), RULE " + rule, x, 3, 5);
                due("still() again", x.still(), NONE);
                due("the RULE", x.rule(rule), rule);
            }
        });
        edge(26, "STILL; NONE.", () -> {
            for (int rule = 0; rule < 3; rule++) {
                PowerShares x = climb(rule, 999);
                x.on(0);
                due("one ON, RULE " + rule, x.still(), 1);
                x.on(1);
                due("none ON, RULE " + rule, x.still(), 0);
                PowerShares y = climb(rule, 999);
                y.senders(1);
                due("one there, RULE " + rule, y.still(), 1);
            }
        });
    }

    // ---- promise 27

    private static void rest() {
        edge(27, "REST: the powers behind them (behind 200)", () -> {
            for (int rule = 0; rule <= 2; rule += 2) {
                int[] cap = {0, 1, 199, 200, 201, 999};
                int[] rest = {0, 1, 199, 200, 200, 200};
                for (int k = 0; k < cap.length; k++) {
                    PowerShares x = climb(rule, cap[k]);
                    due("rest(0) by RULE " + rule + ", CAP " + cap[k], x.rest(0), rest[k]);
                    due("rest(1) by RULE " + rule + ", CAP " + cap[k], x.rest(1), rest[k]);
                }
            }
            due("rest(0) by RULE 1, CAP 398", climb(1, 398).rest(0), 398);
            due("rest(1) by RULE 1, CAP 398", climb(1, 398).rest(1), 398);
            due("rest(0) by RULE 1, CAP 400", climb(1, 400).rest(0), 399);
            due("rest(1) by RULE 1, CAP 400", climb(1, 400).rest(1), 400);
        });
        edge(27, "(behind 200)", () -> {
            PowerShares x = powers(noises(pair(), 0, 0), 7, 9);
            due("rest(0), they change places 200 times", x.rest(0), 7);
            due("rest(1), they change places 200 times", x.rest(1), 9);
            duePowers("rest()", x, 7, 9);
        });
        edge(27, "REST of a SENDER. BAD.", () -> {
            PowerShares x = powers(pair(), 500, 700);
            x.on(0);
            due("rest(0), OFF, above its CAP", x.rest(0), 500);
            due("rest(1)", x.rest(1), 1);
            x.on(1);
            due("rest(1), none ON", x.rest(1), 700);
            due("rest(2)", x.rest(2), BAD);
            for (int i : WILD) {
                due("rest(" + i + ")", x.rest(i), BAD);
            }
            x.senders(1);
            due("rest(1), not there", x.rest(1), BAD);
        });
        edge(27, "REST: the powers behind them", () -> {
            PowerShares x = climb(0, 10);
            due("rest(0), CAP 10", x.rest(0), 10);
            x.set(0, 2, 4);
            due("rest(0), CAP 4 then", x.rest(0), 4);
            due("rest(1) then", x.rest(1), 5);
            x.set(1, 0, 1);
            due("rest(1), WISH 1 then", x.rest(1), 1);
            due("rest(0) then", x.rest(0), 2);
        });
    }

    // ---- promise 28

    private static void met() {
        edge(28, "SENDERS that are ON and HAVE their WISHES, as bits.", () -> {
            PowerShares x = senders(5);
            due("none", x.met(), 0);
            for (int i = 0; i < 5; i++) {
                x.power(i, 1);
                due("up to " + i, x.met(), (2 << i) - 1);
            }
            for (int i = 0; i < 5; i++) {
                x.on(i);
                due("OFF up to " + i, x.met(), 31 - ((2 << i) - 1));
            }
        });
        edge(28, "is no less than its WISH times that", () -> {
            PowerShares x = powers(senders(2), 1, 19);
            due("just", x.met(), 3);
            x.power(1, 20);
            due("one above", x.met(), 2);
            due("of two of which none can", powers(pair(), 40, 40).met(), 0);
            due("nothing heard, power 0", noises(senders(5), 0, 0, 0, 0, 0).met(), 31);
        });
        edge(28, "SENDERS that are ON", () -> {
            PowerShares x = powers(senders(5), 1, 1, 1, 1, 1);
            x.senders(2);
            due("of two", x.met(), 3);
            x.on(1);
            due("of two, one OFF", x.met(), 1);
            PowerShares y = powers(senders(1), 999);
            y.on(0);
            due("none ON", y.met(), 0);
        });
    }
}
