/** Each promise of the document by hand: ordinary inputs, the edges it names, refusals and their order. */
public final class PromiseTest {
    private static final int LEAST_INT = Integer.MIN_VALUE;
    private static final long LONG_BAD = Long.MIN_VALUE + 2;
    private static final long LONG_NOT = Long.MIN_VALUE + 3;
    private static final int[] WILD = {-1, Integer.MIN_VALUE, Integer.MAX_VALUE, 31, 32, 33, 1000};

    private static int wrong = 0;
    private static int promise = 0;

    public static void main(String[] args) {
        promise1();
        promise2();
        promise3();
        promise4();
        promise5();
        promise6();
        promise7();
        promise8and9();
        promise10();
        promise11();
        promise12();
        promise13();
        promise14();
        promise15();
        promise16();
        promise17and18and19();
        promise20();
        promise21();
        promise22();
        promise23();
        promise24();
        promise25();
        promise26and27();
        promise28();
        promise29();
        promise30();
        promise31and32();
        promise33();
        promise34();
        promise35();
        promise36();
        refusalsChangeNothing();
        System.out.println(wrong == 0 ? "promises: all answers are as due" : "promises: " + wrong + " answers are not as due");
        if (wrong != 0) {
            System.exit(1);
        }
    }

    private static void due(String call, long got, long want) {
        if (got != want) {
            wrong++;
            System.out.println("promise " + promise + ": " + call + " answered " + got + ", due is " + want);
        }
    }

    /** Two senders with OWN 1 that hear each other with 2: by WISH 5 and NOISE 1 each needs one more than the other has. */
    private static PowerShares pair() {
        PowerShares x = new PowerShares();
        x.senders(2);
        x.gain(0, 0, 1);
        x.gain(1, 1, 1);
        x.gain(0, 1, 2);
        x.gain(1, 0, 2);
        return x;
    }

    /** Senders with OWN 1 that hear nobody. */
    private static PowerShares deaf(int n) {
        PowerShares x = new PowerShares();
        x.senders(n);
        for (int i = 0; i < n; i++) {
            for (int j = 0; j < n; j++) {
                x.gain(i, j, i == j ? 1 : 0);
            }
        }
        return x;
    }

    private static PowerShares clash(PowerShares x, int i, int j, int v) {
        x.gain(i, j, v);
        x.gain(j, i, v);
        return x;
    }

    private static void powers(PowerShares x, int... v) {
        for (int i = 0; i < v.length; i++) {
            x.power(i, v[i]);
        }
    }

    private static void duePowers(String call, PowerShares x, int... v) {
        for (int i = 0; i < v.length; i++) {
            due("power of " + i + " behind " + call, x.info(i, 4), v[i]);
        }
    }

    private static void type(PowerShares x, String order) {
        for (char c : order.toCharArray()) {
            x.type(c);
        }
    }

    private static void promise1() {
        promise = 1;
        PowerShares x = new PowerShares();
        due("count(0)", x.count(0), 3);
        due("count(1)", x.count(1), 3);
        due("count(6)", x.count(6), 0);
        due("count(8)", x.count(8), 0);
        due("fault()", x.fault(), PowerShares.NONE);
        due("rule(0)", x.rule(0), 0);
        due("wipe()", x.wipe(), 0);
        for (int s = 0; s < 4; s++) {
            due("lose", x.lose(s), -11);
        }
        due("senders(5)", x.senders(5), 3);
        for (int i = 0; i < 5; i++) {
            due("WISH", x.info(i, 0), 5);
            due("NOISE", x.info(i, 1), 1);
            due("CAP", x.info(i, 2), 100);
            due("ON", x.info(i, 3), 1);
            due("power", x.info(i, 4), 0);
            for (int j = 0; j < 5; j++) {
                due("heard", x.heard(i, j), i == j ? 10 : 1);
            }
        }
        PowerShares y = new PowerShares();
        x.set(0, 0, 20);
        due("another object", y.info(0, 0), 5);
    }

    private static void promise2() {
        promise = 2;
        PowerShares x = new PowerShares();
        for (int n : new int[] {0, 6, -1, Integer.MIN_VALUE, Integer.MAX_VALUE}) {
            due("senders(" + n + ")", x.senders(n), PowerShares.BAD);
        }
        due("still three", x.count(0), 3);
        x.set(2, 0, 9);
        x.gain(2, 1, 7);
        x.gain(0, 2, 4);
        x.power(2, 77);
        x.on(2);
        due("senders(1)", x.senders(1), 3);
        due("info(1, 0)", x.info(1, 0), PowerShares.BAD);
        due("on(1)", x.on(1), PowerShares.BAD);
        due("senders(5)", x.senders(5), 1);
        due("WISH stays", x.info(2, 0), 9);
        due("GAIN stays", x.heard(2, 1), 7);
        due("GAIN of another row stays", x.heard(0, 2), 4);
        due("power stays", x.info(2, 4), 77);
        due("OFF stays", x.info(2, 3), 0);
        due("senders(3)", x.senders(3), 5);
    }

    private static void promise3() {
        promise = 3;
        PowerShares x = new PowerShares();
        due("gain(0, 0, 30)", x.gain(0, 0, 30), 10);
        due("gain(0, 0, 1)", x.gain(0, 0, 1), 30);
        due("gain(0, 0, 0)", x.gain(0, 0, 0), PowerShares.BAD);
        due("gain(0, 0, 31)", x.gain(0, 0, 31), PowerShares.BAD);
        due("gain(0, 2, 9)", x.gain(0, 2, 9), 1);
        due("gain(0, 2, 0)", x.gain(0, 2, 0), 9);
        due("gain(0, 2, 10)", x.gain(0, 2, 10), PowerShares.BAD);
        due("gain(0, 2, -1)", x.gain(0, 2, -1), PowerShares.BAD);
        due("gain(2, 0) is another", x.heard(2, 0), 1);
        due("gain(0, 0)", x.heard(0, 0), 1);
        due("gain(0, 2)", x.heard(0, 2), 0);
        due("gain(3, 0, 1)", x.gain(3, 0, 1), PowerShares.BAD);
        due("gain(0, 3, 1)", x.gain(0, 3, 1), PowerShares.BAD);
        for (int i : WILD) {
            due("gain(wild, wild, 1)", x.gain(i, i, 1), PowerShares.BAD);
            due("gain(0, wild, 1)", x.gain(0, i, 1), PowerShares.BAD);
            due("gain(wild, 0, 1)", x.gain(i, 0, 1), PowerShares.BAD);
        }
    }

    private static void promise4() {
        promise = 4;
        PowerShares x = new PowerShares();
        int[] low = {1, 0, 0};
        int[] high = {20, 9, 999};
        int[] first = {5, 1, 100};
        for (int what = 0; what < 3; what++) {
            due("set, high", x.set(1, what, high[what]), first[what]);
            due("set, low", x.set(1, what, low[what]), high[what]);
            due("set, too low", x.set(1, what, low[what] - 1), PowerShares.BAD);
            due("set, too high", x.set(1, what, high[what] + 1), PowerShares.BAD);
            due("set, far", x.set(1, what, Integer.MIN_VALUE), PowerShares.BAD);
            due("it stays", x.info(1, what), low[what]);
            due("of another", x.info(0, what), first[what]);
            for (int i : WILD) {
                due("set(wild)", x.set(i, what, 1), PowerShares.BAD);
            }
            due("set(3)", x.set(3, what, 1), PowerShares.BAD);
        }
        due("set(0, 3, 1)", x.set(0, 3, 1), PowerShares.BAD);
        due("set(0, -1, 1)", x.set(0, -1, 1), PowerShares.BAD);
    }

    private static void promise5() {
        promise = 5;
        PowerShares x = new PowerShares();
        due("on(1)", x.on(1), 5);
        due("on(0)", x.on(0), 4);
        due("on(1)", x.on(1), 6);
        due("info(1, 3)", x.info(1, 3), 1);
        due("info(0, 3)", x.info(0, 3), 0);
        due("on(3)", x.on(3), PowerShares.BAD);
        for (int i : WILD) {
            due("on(wild)", x.on(i), PowerShares.BAD);
        }
        x.senders(5);
        due("on(4) of five", x.on(4), 14);
        x.senders(2);
        due("bits of senders alone", x.on(0), 3);
    }

    private static void promise6() {
        promise = 6;
        PowerShares x = new PowerShares();
        due("power(1, 999)", x.power(1, 999), 0);
        due("power(1, 0)", x.power(1, 0), 999);
        due("power(1, 1000)", x.power(1, 1000), PowerShares.BAD);
        due("power(1, -1)", x.power(1, -1), PowerShares.BAD);
        due("power(3, 0)", x.power(3, 0), PowerShares.BAD);
        x.set(0, 2, 3);
        due("above its CAP", x.power(0, 4), 0);
        due("it stays", x.info(0, 4), 4);
        x.on(2);
        x.power(2, 8);
        due("of one that is OFF", x.info(2, 4), 8);
        for (int i : WILD) {
            due("power(wild, 1)", x.power(i, 1), PowerShares.BAD);
        }
    }

    private static void promise7() {
        promise = 7;
        PowerShares x = new PowerShares();
        due("rule(1)", x.rule(1), 0);
        due("rule(2)", x.rule(2), 1);
        due("rule(3)", x.rule(3), PowerShares.BAD);
        due("rule(-1)", x.rule(-1), PowerShares.BAD);
        due("rule(0)", x.rule(0), 2);
    }

    private static void promise8and9() {
        promise = 8;
        PowerShares x = new PowerShares();
        due("type(-1)", x.type(-1), PowerShares.BAD);
        due("type(256)", x.type(256), PowerShares.BAD);
        due("nothing came", x.count(6), 0);
        for (int k = 1; k <= 12; k++) {
            due("type, " + k, x.type(k % 2 == 0 ? 0 : 255), k);
        }
        due("type, full", x.type(97), PowerShares.FULL);
        due("BAD ahead of FULL", x.type(256), PowerShares.BAD);
        due("twelve", x.count(6), 12);
        promise = 9;
        due("wipe()", x.wipe(), 12);
        due("wipe() again", x.wipe(), 0);
        due("type behind wipe()", x.type(98), 1);
        due("wipe() of one", x.wipe(), 1);
    }

    private static void promise10() {
        promise = 10;
        PowerShares x = new PowerShares();
        due("empty", x.fault(), PowerShares.NONE);
        x.type('A');
        due("at the first place", x.fault(), 0);
        x.wipe();
        type(x, "abc");
        due("abc", x.fault(), PowerShares.NONE);
        x.on(1);
        due("OFF is no fault", x.fault(), PowerShares.NONE);
        x.type('d');
        x.type('e');
        due("d of three", x.fault(), 3);
        x.senders(5);
        due("abcde of five", x.fault(), PowerShares.NONE);
        x.senders(4);
        due("e of four", x.fault(), 4);
        x.senders(1);
        due("b of one", x.fault(), 1);
        x.senders(5);
        for (int b : new int[] {96, 102, 65, 0, 255, 32}) {
            x.wipe();
            x.type(97);
            x.type(b);
            x.type(b);
            due("byte " + b, x.fault(), 1);
        }
    }

    private static void promise11() {
        promise = 11;
        PowerShares x = new PowerShares();
        due("read(4)", x.read(4), PowerShares.BAD);
        due("read(-1)", x.read(-1), PowerShares.BAD);
        due("no finding", x.count(8), 0);
        due("read, lost", x.read(0), -11);
        due("NULL", x.count(8), 1);
        x.sheet(0, 0, 60);
        for (int k = 0; k < 60; k++) {
            x.put(0, 0, k, k % 4 == 0 ? 30 : 9);
        }
        due("nine at most", x.read(0), 9);
        due("heard(2, 2)", x.heard(2, 2), 30);
        due("heard(2, 1)", x.heard(2, 1), 9);
        x.senders(2);
        x.put(0, 0, 3, 7);
        due("two by two", x.read(0), 4);
        due("heard(1, 0)", x.heard(1, 0), 9);
        due("heard(1, 1)", x.heard(1, 1), 7);
        x.put(0, 0, 0, 0);
        due("OWN 0", x.read(0), 0);
        due("OWN as it was", x.heard(0, 0), 30);
        x.put(0, 0, 0, 31);
        due("OWN 31", x.read(0), 0);
        x.put(0, 0, 0, 12);
        x.put(0, 0, 1, 10);
        due("another 10", x.read(0), 1);
        due("the first came", x.heard(0, 0), 12);
        due("the second did not", x.heard(0, 1), 9);
        x.put(0, 0, 1, -1);
        due("below 0", x.read(0), 1);
        x.put(0, 0, 1, 0);
        due("0 is fine", x.read(0), 4);
        due("0 came", x.heard(0, 1), 0);
        x.sheet(1, 2, 3);
        x.put(1, 2, 0, 5);
        x.put(1, 2, 1, 5);
        x.put(1, 2, 2, 3);
        due("three items", x.read(1), 3);
        due("heard(1, 0) then", x.heard(1, 0), 3);
        due("heard(1, 1) as it was", x.heard(1, 1), 7);
        x.sheet(1, 2, 1);
        x.put(1, 2, 0, 8);
        due("one item", x.read(1), 1);
        due("heard(0, 1) as it was", x.heard(0, 1), 5);
        x.sheet(1, 1, 0);
        due("no items", x.read(1), 0);
        due("the latest finding stays", x.count(8), 1);
    }

    private static void promise12() {
        promise = 12;
        PowerShares x = new PowerShares();
        powers(x, 4, 50, 30);
        x.set(0, 1, 0);
        due("NEED, even", x.info(0, 5), 4);
        due("HAS, just", x.info(0, 6), 1);
        x.power(0, 3);
        due("HAS not", x.info(0, 6), 0);
        x.set(0, 1, 1);
        due("NEED, rounded up", x.info(0, 5), 5);
        x.set(0, 2, 1);
        due("NEED is above CAP", x.info(0, 5), 5);
        x.on(2);
        due("OFF sends nothing", x.info(0, 5), 3);
        due("HAS then", x.info(0, 6), 1);
        x.on(0);
        due("NEED of one that is OFF", x.info(0, 5), 3);
        due("HAS of one that is OFF", x.info(0, 6), 0);
        due("ON", x.info(0, 3), 0);
        x.gain(1, 1, 22);
        due("OWN", x.info(1, 7), 22);
        due("power", x.info(1, 4), 50);
        due("info(0, 8)", x.info(0, 8), PowerShares.BAD);
        due("info(0, -1)", x.info(0, -1), PowerShares.BAD);
        due("info(3, 0)", x.info(3, 0), PowerShares.BAD);
        for (int i : WILD) {
            due("info(wild, 5)", x.info(i, 5), PowerShares.BAD);
        }
        PowerShares y = deaf(5);
        for (int i = 0; i < 5; i++) {
            for (int j = 0; j < 5; j++) {
                if (i != j) {
                    y.gain(i, j, 9);
                }
            }
            y.set(i, 0, 20);
            y.set(i, 1, 9);
        }
        powers(y, 999, 999, 999, 999, 999);
        due("the greatest NEED", y.info(0, 5), 2 * (4 * 9 * 999 + 9));
        PowerShares z = new PowerShares();
        z.power(2, 500);
        z.senders(2);
        z.set(0, 1, 0);
        z.power(1, 0);
        due("one that is not there sends nothing", z.info(0, 5), 0);
        due("HAS with nothing heard", z.info(0, 6), 1);
        z.gain(0, 1, 3);
        z.gain(1, 0, 0);
        z.power(1, 20);
        due("what its own receiver hears", z.info(0, 5), 3);
        PowerShares one = deaf(1);
        one.set(0, 0, 1);
        due("a tenth needs one", one.info(0, 5), 1);
        one.set(0, 0, 20);
        one.set(0, 1, 9);
        one.power(0, 17);
        due("HAS not, by one", one.info(0, 6), 0);
        one.power(0, 18);
        due("HAS just", one.info(0, 6), 1);
    }

    private static void promise13() {
        promise = 13;
        PowerShares x = new PowerShares();
        x.gain(1, 2, 7);
        due("heard(1, 2)", x.heard(1, 2), 7);
        due("heard(2, 1)", x.heard(2, 1), 1);
        due("heard(2, 2)", x.heard(2, 2), 10);
        due("heard(3, 0)", x.heard(3, 0), PowerShares.BAD);
        due("heard(0, 3)", x.heard(0, 3), PowerShares.BAD);
        for (int i : WILD) {
            due("heard(wild, 0)", x.heard(i, 0), PowerShares.BAD);
            due("heard(0, wild)", x.heard(0, i), PowerShares.BAD);
        }
    }

    private static void promise14() {
        promise = 14;
        PowerShares x = new PowerShares();
        x.gain(0, 1, 2);
        x.gain(0, 2, 3);
        x.gain(1, 0, 4);
        x.set(0, 0, 6);
        x.set(2, 0, 7);
        // rows 100 -12 -18 / -20 100 -5 / -7 -7 100
        due("minor(0)", x.minor(0), 1);
        due("minor(1)", x.minor(1), 100);
        due("minor(3)", x.minor(3), 9760);
        due("minor(5)", x.minor(5), 9874);
        due("minor(6)", x.minor(6), 9965);
        due("minor(7)", x.minor(7), 956960);
        x.on(1);
        due("of those that are ON", x.minor(7), 9874);
        due("of none that are ON", x.minor(2), 1);
        due("minor(8)", x.minor(8), LONG_BAD);
        due("minor(-1)", x.minor(-1), LONG_BAD);
        due("minor(least)", x.minor(LEAST_INT), LONG_BAD);
        x.senders(1);
        due("minor(2) of one", x.minor(2), LONG_BAD);
        PowerShares y = clash(deaf(2), 0, 1, 9);
        due("below 0", y.minor(3), 100 - 45 * 45);
        PowerShares z = deaf(5);
        for (int i = 0; i < 5; i++) {
            for (int j = 0; j < 5; j++) {
                z.gain(i, j, i == j ? 30 : 9);
            }
            z.set(i, 0, 20);
        }
        // (a - 4 b) (a + b)^4 with a 300, b 180
        due("the greatest square", z.minor(31), -420L * 480 * 480 * 480 * 480);
    }

    private static void promise15() {
        promise = 15;
        due("at first", new PowerShares().feasible(), 1);
        PowerShares x = pair();
        due("minor 0", x.feasible(), 0);
        x.set(0, 0, 4);
        due("minor above 0", x.feasible(), 1);
        x.set(0, 0, 20);
        due("minor below 0", x.feasible(), 0);
        x.on(0);
        due("one alone", x.feasible(), 1);
        x.on(1);
        due("none", x.feasible(), 1);
        PowerShares y = deaf(4);
        clash(y, 0, 1, 9);
        clash(y, 2, 3, 9);
        due("the minor of all is above 0, but not of the first two", y.minor(15), 1925L * 1925);
        due("all first minors count", y.feasible(), 0);
        y.senders(1);
        due("one", y.feasible(), 1);
    }

    private static void promise16() {
        promise = 16;
        PowerShares x = clash(deaf(2), 0, 1, 1);
        x.set(0, 1, 2);
        due("least(0, 0)", x.least(0, 0), 5);
        due("least(0, 1)", x.least(0, 1), 3);
        due("least(1, 0)", x.least(1, 0), 4);
        due("least(1, 1)", x.least(1, 1), 3);
        due("least(0, 2)", x.least(0, 2), LONG_BAD);
        due("least(0, -1)", x.least(0, -1), LONG_BAD);
        due("least(2, 0)", x.least(2, 0), LONG_BAD);
        for (int i : WILD) {
            due("least(wild, 0)", x.least(i, 0), LONG_BAD);
        }
        x.set(0, 2, 0);
        x.power(1, 999);
        due("CAPS and powers do not matter", x.least(0, 0), 5);
        x.on(1);
        due("alone, above", x.least(0, 0), 1);
        due("alone, below", x.least(0, 1), 1);
        due("OFF", x.least(1, 0), LONG_NOT);
        due("BAD ahead of NOT", x.least(1, 2), LONG_BAD);
        x.on(1);
        x.set(0, 1, 0);
        x.set(1, 1, 0);
        due("nothing, above", x.least(1, 0), 0);
        due("nothing, below", x.least(1, 1), 1);
        PowerShares y = deaf(2);
        y.gain(0, 1, 4);
        due("by what its own receiver hears, above", y.least(0, 0), 3);
        due("by what its own receiver hears, below", y.least(0, 1), 2);
        due("of the other, above", y.least(1, 0), 1);
        due("of the other, below", y.least(1, 1), 2);
        x.set(0, 0, 20);
        x.set(1, 0, 20);
        due("not FEASIBLE", x.least(0, 0), LONG_NOT);
        due("not FEASIBLE, below", x.least(0, 1), LONG_NOT);
    }

    private static void promise17and18and19() {
        PowerShares fine = new PowerShares();
        PowerShares two = pair();
        PowerShares three = clash(clash(clash(deaf(3), 0, 1, 1), 0, 2, 1), 1, 2, 1);
        PowerShares twice = clash(clash(deaf(4), 0, 3, 9), 1, 2, 9);
        PowerShares star = clash(clash(clash(deaf(5), 3, 0, 9), 3, 1, 9), 3, 4, 9);
        PowerShares early = clash(clash(deaf(3), 0, 1, 9), 0, 2, 9);
        PowerShares oneWay = deaf(2);
        oneWay.gain(0, 1, 9);
        // by 20 and 5 any four are FEASIBLE, five are just not
        PowerShares five = new PowerShares();
        five.senders(5);
        for (int i = 0; i < 5; i++) {
            five.gain(i, i, 2);
        }
        PowerShares[] all = {fine, two, three, twice, star, early, oneWay, five};
        int[] witness = {0, 3, 7, 6, 9, 3, 0, 31};
        int[] out = {0, 1, 1, 3, 8, 1, 0, 1};
        int[] admitted = {7, 1, 3, 3, 23, 1, 3, 15};
        for (int k = 0; k < all.length; k++) {
            promise = 17;
            due("witness() of case " + k, all[k].witness(), witness[k]);
            promise = 18;
            due("out() of case " + k, all[k].out(), out[k]);
            promise = 19;
            due("admitted() of case " + k, all[k].admitted(), admitted[k]);
        }
        star.on(0);
        promise = 17;
        due("witness() without 0", star.witness(), 10);
        promise = 18;
        due("out() without 0", star.out(), 8);
        promise = 19;
        due("admitted() without 0", star.admitted(), 22);
        star.on(3);
        promise = 17;
        due("witness() without the middle", star.witness(), 0);
        promise = 18;
        due("out() without the middle", star.out(), 0);
        promise = 19;
        due("admitted() without the middle", star.admitted(), 22);
        two.on(0);
        two.on(1);
        promise = 17;
        due("witness() of none", two.witness(), 0);
        promise = 18;
        due("out() of none", two.out(), 0);
        promise = 19;
        due("admitted() of none", two.admitted(), 0);
    }

    private static void promise20() {
        promise = 20;
        due("FEASIBLE", new PowerShares().softer(), PowerShares.NONE);
        PowerShares x = pair();
        due("either: the least", x.softer(), 0);
        due("the WISH stays", x.info(0, 0), 5);
        x = clash(deaf(2), 0, 1, 1);
        x.set(0, 0, 11);
        x.set(1, 0, 10);
        due("the second alone", x.softer(), 1);
        x.set(1, 0, 20);
        due("by none", x.softer(), PowerShares.NONE);
        x.on(0);
        due("OFF: FEASIBLE", x.softer(), PowerShares.NONE);
        x = deaf(2);
        x.gain(0, 1, 5);
        x.gain(1, 0, 1);
        x.set(0, 0, 1);
        x.set(1, 0, 20);
        due("1 at least", x.softer(), 1);
        x = deaf(2);
        x.gain(0, 1, 3);
        x.gain(1, 0, 1);
        x.set(0, 0, 2);
        x.set(1, 0, 19);
        due("2 may be 1", x.softer(), 0);
        x = clash(deaf(2), 0, 1, 1);
        x.set(0, 0, 12);
        x.set(1, 0, 10);
        due("one tenth less, not two", x.softer(), PowerShares.NONE);
        PowerShares y = clash(clash(clash(deaf(3), 0, 1, 1), 0, 2, 1), 1, 2, 1);
        due("three", y.softer(), 0);
        y = clash(deaf(3), 1, 2, 2);
        due("only those that matter", y.softer(), 1);
    }

    private static void promise21() {
        promise = 21;
        due("at first", new PowerShares().margin(), 8);
        int[] wish = {4, 5, 6, 7, 8, 9, 10, 13, 14, 20};
        int[] want = {8, 7, 6, 5, 4, 4, 3, 3, 2, 1};
        for (int k = 0; k < wish.length; k++) {
            PowerShares x = clash(deaf(2), 0, 1, 1);
            x.set(0, 0, wish[k]);
            x.set(1, 0, wish[k]);
            due("margin() by WISH " + wish[k], x.margin(), want[k]);
            due("the WISH stays", x.info(0, 0), wish[k]);
        }
        PowerShares y = clash(deaf(2), 0, 1, 9);
        due("0", y.margin(), 0);
        y.on(1);
        due("one alone", y.margin(), 8);
        y.on(0);
        due("none", y.margin(), 8);
        PowerShares z = clash(clash(clash(deaf(3), 0, 1, 1), 0, 2, 1), 1, 2, 1);
        due("three", z.margin(), 3);
    }

    private static void promise22() {
        promise = 22;
        PowerShares x = new PowerShares();
        x.senders(2);
        powers(x, 1, 3);
        due("10 by 4, above", x.share(0, 0), 5);
        due("10 by 4, below", x.share(0, 1), 2);
        x.on(1);
        due("OFF sends nothing, above", x.share(0, 0), 10);
        due("OFF sends nothing, below", x.share(0, 1), 1);
        due("OFF", x.share(1, 0), LONG_NOT);
        due("BAD ahead of NOT", x.share(1, 2), LONG_BAD);
        x.set(0, 1, 0);
        due("nothing is heard, above", x.share(0, 0), LONG_NOT);
        due("nothing is heard, below", x.share(0, 1), LONG_NOT);
        due("BAD ahead of NOT, again", x.share(0, -1), LONG_BAD);
        x.set(0, 1, 6);
        x.power(0, 0);
        due("0, above", x.share(0, 0), 0);
        due("0, below", x.share(0, 1), 1);
        due("share(2, 0)", x.share(2, 0), LONG_BAD);
        for (int i : WILD) {
            due("share(wild, 0)", x.share(i, 0), LONG_BAD);
        }
    }

    private static void promise23() {
        promise = 23;
        PowerShares x = pair();
        powers(x, 7, 3);
        due("down", x.step(0), 4);
        due("up", x.step(1), 5);
        duePowers("steps", x, 4, 5);
        x.set(0, 2, 3);
        due("CAP", x.step(0), 3);
        x.set(0, 2, 0);
        due("CAP 0", x.step(0), 0);
        x.rule(2);
        x.set(0, 2, 6);
        due("a STEP is no halfway", x.step(0), 6);
        x.on(0);
        due("OFF", x.step(0), PowerShares.NOT);
        duePowers("OFF", x, 6, 5);
        due("OFF is not heard", x.step(1), 1);
        due("step(2)", x.step(2), PowerShares.BAD);
        for (int i : WILD) {
            due("step(wild)", x.step(i), PowerShares.BAD);
        }
    }

    private static void promise24() {
        promise = 24;
        int[][] behind = {{4, 8}, {4, 5}, {6, 6}};
        for (int rule = 0; rule < 3; rule++) {
            PowerShares x = pair();
            powers(x, 7, 3);
            x.rule(rule);
            due("turn() by RULE " + rule, x.turn(), 2);
            duePowers("turn() by RULE " + rule, x, behind[rule]);
        }
        PowerShares y = pair();
        y.set(0, 1, 0);
        y.set(1, 1, 0);
        powers(y, 7, 9);
        due("they change places", y.turn(), 2);
        duePowers("that", y, 9, 7);
        y.rule(1);
        due("one behind another", y.turn(), 1);
        duePowers("that", y, 7, 7);
        due("nothing moves", y.turn(), 0);
        powers(y, 20, 7);
        y.on(0);
        due("OFF keeps its own and is not heard", y.turn(), 1);
        duePowers("that", y, 20, 0);
        PowerShares z = deaf(1);
        z.set(0, 0, 10);
        z.set(0, 1, 4);
        z.rule(2);
        z.power(0, 5);
        due("halfway down by one stays", z.turn(), 0);
        z.power(0, 0);
        due("halfway up", z.turn(), 1);
        duePowers("that", z, 2);
        z.turn();
        duePowers("rounded up", z, 3);
        z.power(0, 999);
        z.set(0, 2, 2);
        z.turn();
        duePowers("halfway to CAP", z, 501);
    }

    private static void promise25() {
        promise = 25;
        PowerShares x = pair();
        due("empty", x.order(), 0);
        x.rule(2);
        powers(x, 7, 3);
        type(x, "ba");
        due("ba", x.order(), 2);
        duePowers("ba", x, 9, 8);
        x.wipe();
        type(x, "aab");
        powers(x, 7, 3);
        due("aab", x.order(), 2);
        duePowers("aab", x, 4, 5);
        type(x, "c");
        due("with a FAULT", x.order(), 0);
        duePowers("with a FAULT", x, 4, 5);
        x.wipe();
        type(x, "ab");
        x.on(0);
        due("OFF does nothing", x.order(), 1);
        duePowers("OFF", x, 4, 1);
        x.on(0);
        x.set(0, 2, 1);
        due("with CAP", x.order(), 2);
        duePowers("with CAP", x, 1, 2);
        due("the text stays", x.count(6), 2);
        x.wipe();
        x.set(0, 2, 100);
        type(x, "abababababab");
        due("twelve", x.order(), 12);
        duePowers("twelve", x, 13, 14);
    }

    private static void promise26and27() {
        int[] cap = {0, 1, 199, 200, 201, 999};
        int[] still = {0, 1, 199, 200, -1, -1};
        int[] rest = {0, 1, 199, 200, 200, 200};
        for (int k = 0; k < cap.length; k++) {
            PowerShares x = pair();
            x.set(0, 2, cap[k]);
            x.set(1, 2, cap[k]);
            promise = 26;
            due("still() by CAP " + cap[k], x.still(), still[k]);
            promise = 27;
            due("rest(0) by CAP " + cap[k], x.rest(0), rest[k]);
            due("rest(1) by CAP " + cap[k], x.rest(1), rest[k]);
            duePowers("still() and rest()", x, 0, 0);
        }
        promise = 26;
        PowerShares byTurns = pair();
        byTurns.set(1, 1, 0);
        due("one moves, then the other, 200 times", byTurns.still(), 200);
        byTurns.set(0, 2, 101);
        due("the first moves once more", byTurns.still(), PowerShares.NONE);
        PowerShares y = pair();
        y.set(0, 1, 0);
        y.set(1, 1, 0);
        powers(y, 7, 9);
        int[][] due = {{-1, 7, 9}, {1, 9, 9}, {1, 8, 8}};
        for (int rule = 0; rule < 3; rule++) {
            y.rule(rule);
            promise = 26;
            due("still() by RULE " + rule, y.still(), due[rule][0]);
            promise = 27;
            due("rest(0) by RULE " + rule, y.rest(0), due[rule][1]);
            due("rest(1) by RULE " + rule, y.rest(1), due[rule][2]);
        }
        y.on(0);
        due("rest(0), OFF", y.rest(0), 7);
        // 9, 5, 3, 2, 1 and no more, as one by 2 is rounded up
        promise = 26;
        due("still(), one alone, halfway", y.still(), 4);
        promise = 27;
        due("rest(1), one alone, halfway", y.rest(1), 1);
        due("rest(2)", y.rest(2), PowerShares.BAD);
        for (int i : WILD) {
            due("rest(wild)", y.rest(i), PowerShares.BAD);
        }
    }

    private static void promise28() {
        promise = 28;
        PowerShares x = new PowerShares();
        due("none", x.met(), 0);
        powers(x, 1, 0, 1);
        due("first and third", x.met(), 5);
        x.on(2);
        due("OFF", x.met(), 1);
        x.senders(5);
        x.power(4, 1);
        due("the fifth", x.met(), 17);
        x.power(1, 9);
        x.senders(1);
        due("of senders alone", x.met(), 1);
        x.set(0, 2, 0);
        due("above its CAP", x.met(), 1);
    }

    private static void promise29() {
        promise = 29;
        PowerShares x = new PowerShares();
        due("sheet(0, 0, 60)", x.sheet(0, 0, 60), 60);
        due("sheet(3, 2, 0)", x.sheet(3, 2, 0), 0);
        due("sheet(0, 0, 61)", x.sheet(0, 0, 61), PowerShares.BAD);
        due("sheet(4, 0, 1)", x.sheet(4, 0, 1), PowerShares.BAD);
        due("sheet(-1, 0, 1)", x.sheet(-1, 0, 1), PowerShares.BAD);
        due("sheet(0, 3, 1)", x.sheet(0, 3, 1), PowerShares.BAD);
        due("sheet(0, -1, 1)", x.sheet(0, -1, 1), PowerShares.BAD);
        due("BAD ahead of SIZE", x.sheet(0, 3, -1), PowerShares.BAD);
        due("BAD ahead of SIZE", x.sheet(4, 0, -1), PowerShares.BAD);
        due("no finding", x.count(8), 0);
        due("SIZE", x.sheet(0, 1, -1), -15);
        due("SIZE is told", x.count(8), 5);
        due("the sheet stays", x.put(0, 0, 59, 7), 1);
        due("SIZE, least", x.sheet(0, 0, LEAST_INT), -15);
        due("it stays", x.get(0, 0, 59), 7);
        due("again", x.sheet(0, 0, 60), 60);
        due("0 at first", x.get(0, 0, 59), 0);
        x.put(0, 0, 0, 9);
        x.put(0, 0, 1, 9);
        due("another FORM", x.sheet(0, 1, 2), 2);
        due("0 at first, too", x.get(0, 1, 0), 0);
        due("0 at first, too", x.get(0, 1, 1), 0);
    }

    private static void promise30() {
        promise = 30;
        PowerShares x = new PowerShares();
        due("lose(4)", x.lose(4), PowerShares.BAD);
        due("lose(-1)", x.lose(-1), PowerShares.BAD);
        due("no finding", x.count(8), 0);
        due("lost at first", x.lose(2), -11);
        due("NULL is told", x.count(8), 1);
        x.sheet(2, 1, 17);
        due("lose(2)", x.lose(2), 17);
        due("lose(2) again", x.lose(2), -11);
        x.sheet(2, 1, 0);
        due("an empty one", x.lose(2), 0);
    }

    private static void promise31and32() {
        PowerShares x = new PowerShares();
        x.sheet(0, 0, 3);
        x.sheet(1, 1, 3);
        x.sheet(2, 2, 3);
        int[] v = {0, 127, 128, 255, 256, -129, 32767, 32768, 65535, 65536, Integer.MAX_VALUE, LEAST_INT + 1};
        for (int each : v) {
            promise = 31;
            due("put byte", x.put(0, 0, 2, each), 1);
            due("put short", x.put(1, 1, 0, each), 1);
            due("put int", x.put(2, 2, 1, each), 1);
            promise = 32;
            due("get byte of " + each, x.get(0, 0, 2), (byte) each);
            due("get short of " + each, x.get(1, 1, 0), (short) each);
            due("get int of " + each, x.get(2, 2, 1), each);
        }
        due("another item", x.get(0, 0, 1), 0);
        due("no finding", x.count(8), 0);
        int[][] calls = {{4, 0, 0}, {-1, 0, 0}, {0, 3, 0}, {0, -1, 0}, {3, 3, 0}, {3, 0, 9}, {3, 2, 0}, {0, 1, 0}, {0, 2, 99},
            {0, 0, 3}, {0, 0, -1}, {1, 1, LEAST_INT}, {2, 2, Integer.MAX_VALUE}, {2, 0, -1}};
        int[] answer = {-2, -2, -2, -2, -2, -11, -11, -13, -13, -12, -12, -12, -12, -13};
        for (int k = 0; k < calls.length; k++) {
            int[] a = calls[k];
            promise = 31;
            due("put, case " + k, x.put(a[0], a[1], a[2], 5), answer[k]);
            int finding = x.count(8);
            if (answer[k] != -2) {
                due("its finding, case " + k, finding, -10 - answer[k]);
            }
            x.sheet(3, 0, -1);
            promise = 32;
            due("get, case " + k, x.get(a[0], a[1], a[2]), LEAST_INT);
            due("its finding, case " + k, x.count(8), answer[k] == -2 ? 5 : -10 - answer[k]);
        }
    }

    private static void promise33() {
        promise = 33;
        PowerShares x = new PowerShares();
        x.sheet(0, 0, 5);
        x.sheet(1, 0, 3);
        x.sheet(2, 1, 5);
        for (int k = 0; k < 5; k++) {
            x.put(0, 0, k, k + 1);
        }
        due("copy to another", x.copy(0, 3, 1, 1, 2), 1);
        dueItems(x, 1, 0, 0, 4, 5);
        due("copy onto itself, up", x.copy(0, 0, 0, 1, 4), 1);
        dueItems(x, 0, 0, 1, 1, 2, 3, 4);
        due("copy onto itself, down", x.copy(0, 2, 0, 0, 3), 1);
        dueItems(x, 0, 0, 2, 3, 4, 3, 4);
        due("nothing, at the ends", x.copy(0, 5, 1, 3, 0), 1);
        due("no finding", x.count(8), 0);
        due("BAD: s", x.copy(4, 0, 3, 0, 0), PowerShares.BAD);
        due("BAD: t", x.copy(3, 0, -1, 0, 0), PowerShares.BAD);
        due("no finding of it", x.count(8), 0);
        due("NULL: s", x.copy(3, -1, 0, 0, 0), -11);
        due("NULL: t", x.copy(0, -1, 3, 0, 0), -11);
        due("NULL: both", x.copy(3, 0, 3, 0, 0), -11);
        due("told", x.count(8), 1);
        due("STORE ahead of INDEX", x.copy(0, -1, 2, 0, 0), -14);
        due("STORE of nothing", x.copy(0, 0, 2, 0, 0), -14);
        due("told", x.count(8), 4);
        int most = Integer.MAX_VALUE;
        int[][] index = {{-1, 0, 0}, {0, -1, 0}, {0, 0, -1}, {6, 0, 0}, {0, 4, 0}, {0, 0, 4}, {3, 0, 3}, {0, 1, 3},
            {most, 0, most}, {0, most, most}, {1, 0, most}, {most, 0, 1}, {LEAST_INT, 0, 1}, {0, 0, LEAST_INT}};
        for (int[] a : index) {
            x.sheet(3, 0, -1);
            due("copy(0, " + a[0] + ", 1, " + a[1] + ", " + a[2] + ")", x.copy(0, a[0], 1, a[1], a[2]), -12);
            due("told", x.count(8), 2);
        }
        dueItems(x, 1, 0, 0, 4, 5);
        x.sheet(3, 2, 1);
        x.sheet(0, 2, 1);
        x.put(0, 2, 0, 1 << 20);
        due("ints", x.copy(0, 0, 3, 0, 1), 1);
        dueItems(x, 3, 2, 1 << 20);
    }

    private static void dueItems(PowerShares x, int s, int form, int... items) {
        for (int k = 0; k < items.length; k++) {
            due("item " + k + " of sheet " + s, x.get(s, form, k), items[k]);
        }
    }

    private static void promise34() {
        promise = 34;
        PowerShares x = pair();
        x.set(0, 2, 200);
        x.set(1, 2, 200);
        due("write(4)", x.write(4), PowerShares.BAD);
        due("write(-1)", x.write(-1), PowerShares.BAD);
        due("no finding", x.count(8), 0);
        due("lost", x.write(0), -11);
        due("told", x.count(8), 1);
        x.sheet(0, 0, 1);
        due("one item", x.write(0), 1);
        due("its lowest bits", x.get(0, 0, 0), -56);
        x.sheet(1, 1, 4);
        x.put(1, 1, 2, 7);
        due("two senders", x.write(1), 2);
        dueItems(x, 1, 1, 200, 200, 7, 0);
        x.sheet(2, 2, 2);
        due("two of two", x.write(2), 2);
        dueItems(x, 2, 2, 200, 200);
        x.sheet(2, 2, 0);
        due("no items", x.write(2), 0);
        duePowers("write()", x, 0, 0);
        x.power(0, 33);
        x.on(0);
        x.write(1);
        dueItems(x, 1, 1, 33, 1, 7, 0);
    }

    private static void promise35() {
        promise = 35;
        PowerShares x = clash(deaf(4), 0, 3, 9);
        powers(x, 1, 2, 4, 8);
        type(x, "abz");
        // STILL: 0 and 3 go from 1, 8 by 37, 5 and 23, 100 to their caps
        int[] want = {4, 4, 3, 15, 1, 3, 3, 3, 0};
        for (int what = 0; what <= 8; what++) {
            due("count(" + what + ")", x.count(what), want[what]);
        }
        x.on(0);
        int[] then = {4, 3, 3, 14, 0, 3, 3, 1, 0};
        for (int what = 0; what <= 8; what++) {
            due("count(" + what + ") without 0", x.count(what), then[what]);
        }
        x.senders(2);
        due("count(3) of senders alone", x.count(3), 2);
        due("count(2) of senders alone", x.count(2), 1);
        due("count(1) of senders alone", x.count(1), 1);
        x.senders(4);
        x.on(0);
        x.set(0, 2, 999);
        x.set(3, 2, 999);
        clash(x, 0, 3, 2);
        due("count(7), more", x.count(7), PowerShares.NONE);
        due("count(9)", x.count(9), PowerShares.BAD);
        due("count(-1)", x.count(-1), PowerShares.BAD);
        due("count(8) before any", x.count(8), 0);
        x.lose(0);
        due("count(8), NULL", x.count(8), 1);
        x.sheet(0, 0, 2);
        x.put(0, 0, 2, 1);
        due("count(8), INDEX", x.count(8), 2);
        x.put(0, 1, 0, 1);
        due("count(8), CAST", x.count(8), 3);
        x.sheet(1, 1, 2);
        x.copy(0, 0, 1, 0, 1);
        due("count(8), STORE", x.count(8), 4);
        x.sheet(0, 0, -1);
        due("count(8), SIZE", x.count(8), 5);
        x.put(0, 0, 0, 1);
        x.lose(9);
        due("count(8), the latest", x.count(8), 5);
    }

    private static void promise36() {
        promise = 36;
        PowerShares x = new PowerShares();
        due("digest() at first", x.digest(), 2106254748372413310L);
        due("digest() again", x.digest(), 2106254748372413310L);
        due("digest() of the pair", pair().digest(), -3573607815429284563L);
        x.lose(0);
        due("findings are not in it", x.digest(), 2106254748372413310L);
        x.senders(5);
        x.on(3);
        powers(x, 3, 1, 4, 1, 5);
        type(x, "acx");
        x.rule(2);
        x.gain(1, 4, 8);
        x.set(2, 0, 17);
        due("digest() by its parts", x.digest(), byParts(x));
        x.gain(1, 1, 1);
        x.gain(4, 4, 1);
        x.gain(4, 1, 9);
        due("digest() by its parts, not FEASIBLE", x.digest(), byParts(x));
        duePowers("digest()", x, 3, 1, 4, 1, 5);
    }

    private static long byParts(PowerShares x) {
        long h = 17;
        for (int what = 0; what < 8; what++) {
            h = 31 * h + x.count(what);
        }
        int[] all = {x.fault(), x.feasible(), x.witness(), x.out(), x.admitted(), x.softer(), x.margin(), x.met()};
        for (int each : all) {
            h = 31 * h + each;
        }
        int n = x.count(0);
        for (int i = 0; i < n; i++) {
            for (int what = 0; what < 8; what++) {
                h = 31 * h + x.info(i, what);
            }
            long[] more = {x.least(i, 0), x.least(i, 1), x.share(i, 0), x.share(i, 1), x.rest(i)};
            for (long each : more) {
                h = 31 * h + each;
            }
            for (int j = 0; j < n; j++) {
                h = 31 * h + x.heard(i, j);
            }
        }
        for (int set = 0; set < 1 << n; set++) {
            h = 31 * h + x.minor(set);
        }
        return h;
    }

    /** What a refusal could have changed shows in the digest, the rule, the text or the sheets. */
    private static void refusalsChangeNothing() {
        promise = 0;
        PowerShares x = pair();
        x.rule(1);
        type(x, "abababababab");
        powers(x, 3, 8);
        x.sheet(0, 0, 2);
        x.put(0, 0, 0, 5);
        x.sheet(1, 1, 2);
        x.put(1, 1, 1, 6);
        x.on(1);
        long before = x.digest();
        long refused = x.senders(0) + x.gain(0, 0, 0) + x.gain(0, 1, 10) + x.set(0, 0, 21) + x.set(0, 3, 1) + x.on(2)
                + x.power(0, 1000) + x.rule(3) + x.type(97) + x.type(-1) + x.read(2) + x.read(4) + x.step(1) + x.step(2)
                + x.sheet(0, 0, 61) + x.sheet(0, 0, -1) + x.lose(2) + x.put(0, 1, 0, 1) + x.put(0, 0, 2, 1)
                + x.copy(0, 0, 1, 0, 1) + x.copy(0, 0, 0, 1, 2) + x.write(2) + x.count(9);
        due("the refusals, added", refused, -2 * 13 - 3 - 4 - 11 * 3 - 12 * 2 - 13 - 14 - 15);
        due("digest()", x.digest(), before);
        due("rule", x.rule(0), 1);
        due("count(6)", x.count(6), 12);
        dueItems(x, 0, 0, 5, 0);
        dueItems(x, 1, 1, 0, 6);
        due("sheet 2 is lost", x.lose(2), -11);
        due("sheet 0 has two", x.lose(0), 2);
    }
}
