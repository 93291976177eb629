import java.math.BigInteger;

/** Edges of promises 29 to 36: sheets, counts and the digest. */
public final class EdgesOfSheetsTest extends Edges {
    public static void main(String[] args) {
        sheet();
        lose();
        put();
        get();
        copy();
        copyRefused();
        write();
        count();
        findings();
        digest();
        end("edges of sheets", 29, 30, 31, 32, 33, 34, 35, 36);
    }

    // ---- promise 29

    private static void sheet() {
        edge(29, "A SHEET is a new row of a FORM with n items: n.", () -> {
            for (int s = 0; s < 4; s++) {
                for (int form = 0; form < 3; form++) {
                    PowerShares x = new PowerShares();
                    for (int n : new int[] {0, 1, 59, 60}) {
                        due("sheet(" + s + ", " + form + ", " + n + ")", x.sheet(s, form, n), n);
                        due("copy of nothing at its end", x.copy(s, n, s, n, 0), 1);
                        due("copy of nothing behind its end", x.copy(s, n + 1, s, 0, 0), INDEX);
                        due("of its FORM", x.put(s, form, n - 1, 1), n == 0 ? INDEX : 1);
                        due("of another FORM", x.put(s, (form + 1) % 3, 0, 1), CAST);
                    }
                }
            }
        });
        edge(29, "of 0 to 60 items (0 at first)", () -> {
            for (int form = 0; form < 3; form++) {
                PowerShares x = filled(new PowerShares(), 1, form, times(60, 77));
                due("a shorter row", x.sheet(1, form, 20), 20);
                dueItems("that", x, 1, form, times(20, 0));
                filled(x, 1, form, times(20, 78));
                due("a longer row", x.sheet(1, form, 60), 60);
                dueItems("that", x, 1, form, times(60, 0));
            }
            PowerShares y = filled(new PowerShares(), 1, 0, times(60, 77));
            y.lose(1);
            y.sheet(1, 0, 60);
            dueItems("lose() and sheet()", y, 1, 0, times(60, 0));
        });
        edge(29, "BAD: SHEET, FORM, above 60; SIZE.", () -> {
            PowerShares x = filled(new PowerShares(), 0, 1, 5, 6, 7);
            due("sheet(4, 0, 1)", x.sheet(4, 0, 1), BAD);
            due("sheet(0, 3, 1)", x.sheet(0, 3, 1), BAD);
            for (int v : WILD) {
                due("sheet(" + v + ", 0, 1)", x.sheet(v, 0, 1), BAD);
                due("sheet(0, " + v + ", 1)", x.sheet(0, v, 1), BAD);
            }
            due("sheet(0, 0, 61)", x.sheet(0, 0, 61), BAD);
            due("sheet(0, 0, most int)", x.sheet(0, 0, MOST_INT), BAD);
            due("SHEET 4, below 0", x.sheet(4, 0, -1), BAD);
            due("SHEET -1, below 0", x.sheet(-1, 0, -1), BAD);
            due("FORM 3, below 0", x.sheet(0, 3, -1), BAD);
            due("FORM -1, below 0", x.sheet(0, -1, LEAST_INT), BAD);
            due("no FINDING", x.count(8), 0);
            dueItems("refusals", x, 0, 1, 5, 6, 7);
        });
        edge(29, "5 SIZE: below 0", () -> {
            PowerShares x = filled(new PowerShares(), 0, 1, 5, 6, 7);
            due("sheet(0, 1, -1)", x.sheet(0, 1, -1), SIZE);
            due("its FINDING", x.count(8), 5);
            due("sheet(0, 2, least int)", x.sheet(0, 2, LEAST_INT), SIZE);
            dueItems("SIZE", x, 0, 1, 5, 6, 7);
            due("sheet(3, 0, -1), LOST", x.sheet(3, 0, -1), SIZE);
            due("it is LOST still", x.lose(3), NULL);
            due("three items still", x.lose(0), 3);
        });
        edge(29, "SHEETS 0 .. 3 are LOST (at first) or a row of a FORM", () -> {
            PowerShares x = new PowerShares();
            for (int s = 0; s < 4; s++) {
                filled(x, s, s % 3, times(s + 1, s + 10));
            }
            x.put(2, 2, 0, 99);
            dueItems("put(2, ..)", x, 0, 0, 10);
            dueItems("put(2, ..)", x, 1, 1, 11, 11);
            dueItems("put(2, ..)", x, 2, 2, 99, 12, 12);
            dueItems("put(2, ..)", x, 3, 0, 13, 13, 13, 13);
        });
    }

    // ---- promise 30

    private static void lose() {
        edge(30, "It is LOST: how many items it had. BAD; NULL.", () -> {
            for (int s = 0; s < 4; s++) {
                PowerShares x = new PowerShares();
                due("lose(" + s + "), LOST", x.lose(s), NULL);
                due("its FINDING", x.count(8), 1);
                for (int n : new int[] {0, 1, 60}) {
                    x.sheet(s, s % 3, n);
                    due("lose(" + s + "), " + n + " items", x.lose(s), n);
                    due("lose(" + s + ") again", x.lose(s), NULL);
                    due("put, LOST", x.put(s, s % 3, 0, 1), NULL);
                }
            }
        });
        edge(30, "how many items it had. BAD", () -> {
            PowerShares x = filled(filled(new PowerShares(), 0, 0, 1), 3, 0, 4);
            due("lose(4)", x.lose(4), BAD);
            for (int s : WILD) {
                due("lose(" + s + ")", x.lose(s), BAD);
            }
            due("no FINDING", x.count(8), 0);
            due("lose(0)", x.lose(0), 1);
            dueItems("lose(0)", x, 3, 0, 4);
        });
    }

    // ---- promise 31

    private static final int[] VALUES = {0, 1, -1, 127, 128, 129, 255, 256, -127, -128, -129, -256, 32767, 32768, 65535, 65536,
        -32768, -32769, -65536, MOST_INT, MOST_INT - 1, LEAST_INT + 1, 0x7fffff80, 0x12345678, 0x89abcdef};

    private static void put() {
        edge(31, "Item i, treated as of a FORM, becomes v (the lowest bits that it has, with its sign): 1.", () -> {
            for (int v : VALUES) {
                PowerShares x = new PowerShares();
                for (int form = 0; form < 3; form++) {
                    x.sheet(form, form, 3);
                    due("put(" + v + "), FORM " + form, x.put(form, form, 1, v), 1);
                    int bits = 8 << form;
                    int cut = form == 2 ? v : Math.floorMod(v, 1 << bits);
                    int kept = form < 2 && cut >= 1 << bits - 1 ? cut - (1 << bits) : cut;
                    dueItems("put(" + v + ")", x, form, form, 0, kept, 0);
                }
            }
        });
        edge(31, "the lowest bits that it has, with its sign", () -> {
            PowerShares x = filled(filled(new PowerShares(), 0, 0, 127, 128, 255, 256), 1, 1, 32767, 32768, 65535, 65536);
            dueItems("bytes", x, 0, 0, 127, -128, -1, 0);
            dueItems("shorts", x, 1, 1, 32767, -32768, -1, 0);
            filled(x, 2, 2, 32768, -32769, MOST_INT, 1 << 30);
            dueItems("ints", x, 2, 2, 32768, -32769, MOST_INT, 1 << 30);
        });
        edge(31, "BAD; NULL; CAST; INDEX.", () -> {
            for (int[] row : REFUSED_ITEMS) {
                PowerShares x = threeSheets();
                due(told("put", row), x.put(row[0], row[1], row[2], 55), row[3]);
                due("its FINDING", x.count(8), row[3] == BAD ? 0 : -10 - row[3]);
                dueThreeSheets(told("put", row), x);
            }
        });
    }

    /** SHEET, FORM and item of a call, and its refusal; SHEET 3 is LOST, the others have three items of their number's FORM. */
    private static final int[][] REFUSED_ITEMS = {
        {4, 0, 0, BAD}, {-1, 0, 0, BAD}, {LEAST_INT, 0, 0, BAD}, {MOST_INT, 0, 0, BAD}, {4, 1, 9, BAD},
        {0, 3, 0, BAD}, {0, -1, 0, BAD}, {0, LEAST_INT, 0, BAD}, {0, MOST_INT, 0, BAD}, {3, 3, 0, BAD}, {3, -1, -1, BAD},
        {3, 0, 0, NULL}, {3, 1, 0, NULL}, {3, 2, 0, NULL}, {3, 0, -1, NULL}, {3, 2, 60, NULL},
        {0, 1, 0, CAST}, {0, 2, 0, CAST}, {1, 0, 0, CAST}, {1, 2, 0, CAST}, {2, 0, 0, CAST}, {2, 1, 0, CAST},
        {0, 1, 3, CAST}, {2, 0, -1, CAST}, {1, 2, MOST_INT, CAST},
        {0, 0, 3, INDEX}, {0, 0, -1, INDEX}, {1, 1, 3, INDEX}, {1, 1, -1, INDEX}, {2, 2, 3, INDEX}, {2, 2, -1, INDEX},
        {0, 0, 59, INDEX}, {0, 0, 60, INDEX}, {1, 1, MOST_INT, INDEX}, {2, 2, LEAST_INT, INDEX}, {2, 2, 256, INDEX}};

    private static String told(String call, int[] row) {
        return call + "(" + row[0] + ", " + row[1] + ", " + row[2] + ")";
    }

    private static PowerShares threeSheets() {
        return filled(filled(filled(new PowerShares(), 0, 0, 1, 2, 3), 1, 1, 4, 5, 6), 2, 2, 7, 8, 9);
    }

    private static void dueThreeSheets(String behind, PowerShares x) {
        dueItems(behind, x, 0, 0, 1, 2, 3);
        dueItems(behind, x, 1, 1, 4, 5, 6);
        dueItems(behind, x, 2, 2, 7, 8, 9);
        due("lose(0) behind " + behind, x.lose(0), 3);
        due("lose(3) behind " + behind, x.lose(3), NULL);
    }

    // ---- promise 32

    private static void get() {
        edge(32, "BAD: the least int; so are NULL, CAST, INDEX (count() 8 tells).", () -> {
            for (int[] row : REFUSED_ITEMS) {
                PowerShares x = threeSheets();
                due(told("get", row), x.get(row[0], row[1], row[2]), LEAST_INT);
                due("count(8) behind " + told("get", row), x.count(8), row[3] == BAD ? 0 : -10 - row[3]);
                x = threeSheets();
                x.sheet(0, 0, -1);
                x.get(row[0], row[1], row[2]);
                due("count(8), SIZE ahead of " + told("get", row), x.count(8), row[3] == BAD ? 5 : -10 - row[3]);
                dueThreeSheets(told("get", row), x);
            }
        });
        edge(32, "Item i of it.", () -> {
            for (int form = 0; form < 3; form++) {
                PowerShares x = new PowerShares();
                x.sheet(0, form, 60);
                x.put(0, form, 0, 11);
                x.put(0, form, 59, 12);
                due("the first", x.get(0, form, 0), 11);
                due("the last", x.get(0, form, 59), 12);
                due("one between", x.get(0, form, 30), 0);
                due("behind the last", x.get(0, form, 60), LEAST_INT);
                x.sheet(0, form, 0);
                due("the first of none", x.get(0, form, 0), LEAST_INT);
                due("its FINDING", x.count(8), 2);
            }
        });
        edge(32, "(count() 8 tells)", () -> {
            PowerShares x = filled(new PowerShares(), 0, 2, LEAST_INT);
            due("an item that is the least int", x.get(0, 2, 0), LEAST_INT);
            due("no FINDING", x.count(8), 0);
        });
    }

    // ---- promise 33

    private static PowerShares twoRows(int form) {
        return filled(filled(new PowerShares(), 0, form, 1, 2, 3, 4, 5), 1, form, 6, 7, 8);
    }

    private static void copy() {
        edge(33, "n items of SHEET s, from i on, come to SHEET t (perhaps s, as they were), from j on: 1.", () -> {
            for (int form = 0; form < 3; form++) {
                PowerShares x = twoRows(form);
                due("the last to the first", x.copy(0, 3, 1, 0, 2), 1);
                dueItems("that", x, 1, form, 4, 5, 8);
                dueItems("that", x, 0, form, 1, 2, 3, 4, 5);
                due("all of the lesser", x.copy(1, 0, 0, 2, 3), 1);
                dueItems("that", x, 0, form, 1, 2, 4, 5, 8);
                x = twoRows(form);
                due("the last item alone", x.copy(0, 4, 1, 2, 1), 1);
                dueItems("that", x, 1, form, 6, 7, 5);
            }
        });
        edge(33, "(perhaps s, as they were)", () -> {
            for (int form = 0; form < 3; form++) {
                PowerShares x = twoRows(form);
                due("up by one", x.copy(0, 0, 0, 1, 4), 1);
                dueItems("that", x, 0, form, 1, 1, 2, 3, 4);
                x = twoRows(form);
                due("down by one", x.copy(0, 1, 0, 0, 4), 1);
                dueItems("that", x, 0, form, 2, 3, 4, 5, 5);
                x = twoRows(form);
                due("onto themselves", x.copy(0, 0, 0, 0, 5), 1);
                dueItems("that", x, 0, form, 1, 2, 3, 4, 5);
            }
        });
        edge(33, "of n 0, too: i or j above the size", () -> {
            PowerShares x = twoRows(0);
            due("at both ends", x.copy(0, 5, 1, 3, 0), 1);
            due("at both starts", x.copy(0, 0, 1, 0, 0), 1);
            due("no FINDING", x.count(8), 0);
            due("i one above", x.copy(0, 6, 1, 3, 0), INDEX);
            due("j one above", x.copy(0, 5, 1, 4, 0), INDEX);
            due("i below 0", x.copy(0, -1, 1, 0, 0), INDEX);
            due("j below 0", x.copy(0, 0, 1, -1, 0), INDEX);
            filled(filled(x, 2, 1), 3, 1);
            due("of empty rows", x.copy(2, 0, 3, 0, 0), 1);
            due("of empty rows, i above", x.copy(2, 1, 3, 0, 0), INDEX);
            due("of empty rows, j above", x.copy(2, 0, 3, 1, 0), INDEX);
            due("of empty rows, one item", x.copy(2, 0, 3, 0, 1), INDEX);
            due("its FINDING", x.count(8), 2);
        });
        edge(33, "INDEX: i, j or n below 0, not so many there", () -> {
            int[][] rows = {{-1, 0, 1}, {0, -1, 1}, {0, 0, -1}, {5, 0, 1}, {0, 3, 1}, {0, 0, 4}, {0, 0, 6}, {3, 0, 3}, {0, 1, 3},
                {4, 2, 2}, {LEAST_INT, 0, 1}, {0, LEAST_INT, 1}, {0, 0, LEAST_INT}, {MOST_INT, 0, 1}, {0, MOST_INT, 1},
                {0, 0, MOST_INT}, {MOST_INT, 0, MOST_INT}, {1, 0, MOST_INT}, {0, 1, MOST_INT}, {MOST_INT, MOST_INT, MOST_INT},
                {LEAST_INT, 0, LEAST_INT}, {-1, 0, 2}, {2, 2, -1}};
            for (int[] row : rows) {
                PowerShares x = twoRows(2);
                due("copy(0, " + row[0] + ", 1, " + row[1] + ", " + row[2] + ")", x.copy(0, row[0], 1, row[1], row[2]), INDEX);
                due("its FINDING", x.count(8), 2);
                dueItems("that", x, 0, 2, 1, 2, 3, 4, 5);
                dueItems("that", x, 1, 2, 6, 7, 8);
            }
        });
    }

    private static void copyRefused() {
        edge(33, "BAD: the SHEETS; NULL: s, t; STORE; INDEX", () -> {
            int[][] refused = {{4, 0, 0, 0, 1, BAD}, {-1, 0, 0, 0, 1, BAD}, {0, 0, 4, 0, 1, BAD}, {0, 0, -1, 0, 1, BAD},
                {LEAST_INT, 0, 0, 0, 1, BAD}, {0, 0, MOST_INT, 0, 1, BAD}, {4, -1, 4, -1, -1, BAD}, {3, 0, 4, 0, 1, BAD},
                {4, 0, 3, 0, 1, BAD}, {3, 0, 0, 0, 1, NULL}, {0, 0, 3, 0, 1, NULL}, {3, 0, 3, 0, 0, NULL}, {3, -1, 1, 99, -1, NULL},
                {1, 99, 3, -1, 1, NULL}, {0, 0, 1, 0, 1, STORE}, {1, 0, 0, 0, 1, STORE}, {0, 0, 2, 0, 1, STORE},
                {2, 0, 0, 0, 1, STORE}, {1, 0, 2, 0, 1, STORE}, {2, 0, 1, 0, 1, STORE}, {0, 0, 1, 0, 0, STORE},
                {0, -1, 1, 0, 1, STORE}, {0, 0, 1, 9, 1, STORE}, {0, 0, 1, 0, -1, STORE}, {2, 4, 1, 4, 0, STORE}};
            for (int[] row : refused) {
                PowerShares x = threeSheets();
                String call = "copy(" + row[0] + ", " + row[1] + ", " + row[2] + ", " + row[3] + ", " + row[4] + ")";
                due(call, x.copy(row[0], row[1], row[2], row[3], row[4]), row[5]);
                due("its FINDING", x.count(8), row[5] == BAD ? 0 : -10 - row[5]);
                dueThreeSheets(call, x);
            }
        });
        edge(33, "4 STORE: unlike FORMS", () -> {
            for (int s = 0; s < 3; s++) {
                for (int t = 0; t < 3; t++) {
                    due("copy of FORM " + s + " to " + t, threeSheets().copy(s, 0, t, 0, 1), s == t ? 1 : STORE);
                }
            }
        });
    }

    // ---- promise 34

    private static void write() {
        edge(34, "REST of SENDERS comes to a SHEET from item 0 on, as many as there are items, and SENDERS: how many.", () -> {
            for (int n = 1; n <= 5; n++) {
                for (int size : new int[] {0, 1, n - 1, n, n + 1, 60}) {
                    PowerShares x = powers(senders(5), 10, 20, 30, 40, 50);
                    for (int i = 0; i < 5; i++) {
                        x.on(i);
                    }
                    x.senders(n);
                    filled(x, 2, 1, times(size, 99));
                    int many = Math.min(n, size);
                    due("write(2), " + size + " items among " + n, x.write(2), many);
                    for (int k = 0; k < size; k++) {
                        due("item " + k + " of " + size + " among " + n, x.get(2, 1, k), k < many ? 10 * k + 10 : 99);
                    }
                }
            }
        });
        edge(34, "REST of SENDERS comes to a SHEET", () -> {
            PowerShares x = caps(pair(), 999, 999);
            x.sheet(0, 2, 2);
            due("write(0), behind 200 TURNS", x.write(0), 2);
            dueItems("write", x, 0, 2, 200, 200);
            duePowers("write", x, 0, 0);
            caps(x, 7, 300);
            due("write(0), until nothing moves", x.write(0), 2);
            dueItems("write", x, 0, 2, 7, 8);
        });
        edge(34, "0 bytes, 1 shorts, 2 ints", () -> {
            int[][] powerAndByte = {{127, 127}, {128, -128}, {255, -1}, {256, 0}, {999, -25}};
            for (int[] row : powerAndByte) {
                PowerShares x = powers(senders(1), row[0]);
                x.on(0);
                x.sheet(0, 0, 1);
                x.sheet(1, 1, 1);
                x.sheet(2, 2, 1);
                for (int s = 0; s < 3; s++) {
                    due("write(" + s + ") of " + row[0], x.write(s), 1);
                    dueItems("write of " + row[0], x, s, s, s == 0 ? row[1] : row[0]);
                }
            }
        });
        edge(34, "and SENDERS: how many. BAD; NULL.", () -> {
            PowerShares x = new PowerShares();
            due("write(4)", x.write(4), BAD);
            for (int s : WILD) {
                due("write(" + s + ")", x.write(s), BAD);
            }
            due("no FINDING", x.count(8), 0);
            due("write(3), LOST", x.write(3), NULL);
            due("its FINDING", x.count(8), 1);
            x.sheet(3, 0, 0);
            due("write(3), no items", x.write(3), 0);
        });
    }

    // ---- promise 35

    private static void dueCounts(String of, PowerShares x, int... want) {
        for (int what = 0; what < want.length; what++) {
            due("count(" + what + ") " + of, x.count(what), want[what]);
        }
    }

    private static void count() {
        edge(35, "the number of the latest FINDING (0 before any). BAD.", () -> {
            PowerShares x = new PowerShares();
            due("count(9)", x.count(9), BAD);
            for (int what : WILD) {
                due("count(" + what + ")", x.count(what), BAD);
            }
            due("count(8)", x.count(8), 0);
        });
        edge(35, "0 SENDERS, 1 those that are ON, 2 how many HAVE their WISHES", () -> {
            dueCounts("at first", new PowerShares(), 3, 3, 0, 0, 0, 3, 0, 1, 0);
            dueCounts("of one", senders(1), 1, 1, 0, 0, 0, 1, 0, 1, 0);
            PowerShares x = typed(powers(senders(5), 1, 1, 1, 1, 1), "abcdeabcdeab");
            dueCounts("of five", x, 5, 5, 5, 5, 0, 5, 12, 0, 0);
            for (int i = 0; i < 5; i++) {
                x.on(i);
            }
            dueCounts("of none", x, 5, 0, 0, 0, 0, 0, 12, 0, 0);
        });
        edge(35, "3 the sum of WHOLE powers of those that are ON", () -> {
            PowerShares x = powers(senders(5), 999, 999, 999, 999, 999);
            due("the greatest", x.count(3), 4995);
            x.on(0);
            due("0 is OFF", x.count(3), 3996);
            x.senders(2);
            due("two there, one OFF", x.count(3), 999);
            x.senders(1);
            due("one there, OFF", x.count(3), 0);
        });
        edge(35, "4 how many are LEFT OUT, 5 how many are ADMITTED", () -> {
            PowerShares x = deaf(5);
            for (int i = 0; i < 5; i++) {
                for (int j = 0; j < i; j++) {
                    clash(x, i, j, 9);
                }
            }
            due("count(4), four", x.count(4), 4);
            due("count(5), one", x.count(5), 1);
            due("count(4), a ring", ring(5).count(4), 1);
            due("count(5), a ring", ring(5).count(5), 4);
        });
        edge(35, "6 bytes of THE ORDER", () -> {
            PowerShares x = typed(new PowerShares(), "zzzzzzzzzzz");
            due("eleven, with a FAULT", x.count(6), 11);
            x.type(0);
            due("twelve", x.count(6), 12);
            x.type(97);
            due("twelve, FULL", x.count(6), 12);
            x.wipe();
            due("none", x.count(6), 0);
        });
        edge(35, "7 STILL (NONE)", () -> {
            due("200", caps(pair(), 200, 200).count(7), 200);
            due("more", caps(pair(), 201, 201).count(7), NONE);
            due("nothing moves", caps(pair(), 0, 0).count(7), 0);
        });
    }

    private static void findings() {
        edge(35, "FINDINGS (answers -10 less the number; they change nothing but count() 8)", () -> {
            PowerShares x = threeSheets();
            due("NULL", x.lose(3), -11);
            due("count(8), NULL", x.count(8), 1);
            due("INDEX", x.put(0, 0, 3, 0), -12);
            due("count(8), INDEX", x.count(8), 2);
            due("CAST", x.put(0, 1, 0, 0), -13);
            due("count(8), CAST", x.count(8), 3);
            due("STORE", x.copy(0, 0, 1, 0, 1), -14);
            due("count(8), STORE", x.count(8), 4);
            due("SIZE", x.sheet(0, 0, -1), -15);
            due("count(8), SIZE", x.count(8), 5);
            due("NULL again", x.read(3), -11);
            due("count(8), NULL again", x.count(8), 1);
            dueThreeSheets("FINDINGS", x);
        });
        edge(35, "8 the number of the latest FINDING", () -> {
            PowerShares x = new PowerShares();
            x.put(0, 0, 0, 0);
            x.sheet(0, 0, 1);
            x.put(0, 0, 1, 0);
            x.put(0, 0, 0, 7);
            due("get(0, 0, 0)", x.get(0, 0, 0), 7);
            due("write(0)", x.write(0), 1);
            due("read(0)", x.read(0), 1);
            due("copy", x.copy(0, 0, 0, 0, 1), 1);
            due("lose(0)", x.lose(0), 1);
            due("it stays behind calls that find nothing", x.count(8), 2);
            x.senders(9);
            x.count(9);
            x.rule(-1);
            x.step(7);
            x.lose(7);
            x.get(7, 0, 0);
            due("it stays behind BAD", x.count(8), 2);
            x.on(0);
            x.step(0);
            x.least(0, 0);
            due("it stays behind NOT", x.count(8), 2);
            typed(x, "aaaaaaaaaaaaa");
            due("it stays behind FULL", x.count(8), 2);
        });
    }

    // ---- promise 36

    private static long wrapped(long... each) {
        BigInteger h = BigInteger.valueOf(17);
        for (long v : each) {
            h = h.multiply(BigInteger.valueOf(31)).add(BigInteger.valueOf(v));
        }
        return h.longValue();
    }

    private static void digest() {
        edge(36, "h is 17; h becomes 31 h and each of (of each thing all that is told of it, then of the next one)", () -> {
            due("one at first", senders(1).digest(), wrapped(1, 1, 0, 0, 0, 1, 0, 1, -1, 1, 0, 0, 1, -1, 8, 0,
                    5, 1, 100, 1, 0, 1, 0, 10, 1, 20, 0, 1, 1, 10, 1, 100));
            due("two, not FEASIBLE", pair().digest(), wrapped(2, 2, 0, 0, 1, 1, 0, 100, -1, 0, 3, 1, 1, 0, 3, 0,
                    5, 1, 100, 1, 0, 1, 0, 1, LONG_NOT, LONG_NOT, 0, 1, 100, 1, 2,
                    5, 1, 100, 1, 0, 1, 0, 1, LONG_NOT, LONG_NOT, 0, 1, 100, 2, 1, 1, 10, 10, 0));
        });
        edge(36, "as longs that wrap", () -> {
            PowerShares x = senders(1);
            x.on(0);
            due("one, OFF: refusals are in it", x.digest(), wrapped(1, 0, 0, 0, 0, 0, 0, 0, -1, 1, 0, 0, 0, -1, 8, 0,
                    5, 1, 100, 0, 0, 1, 0, 10, LONG_NOT, LONG_NOT, LONG_NOT, LONG_NOT, 0, 10, 1, 1));
        });
        edge(36, "of 0 to as many as all bits of SENDERS minor()", () -> {
            for (int n = 1; n <= 5; n++) {
                PowerShares x = typed(powers(senders(n), 3, 1, 4, 1, 5), "axb");
                x.rule(2);
                due("digest() of " + n, x.digest(), byParts(x));
                x.on(n - 1);
                due("digest() of " + n + ", one OFF", x.digest(), byParts(x));
                x = caps(ring(Math.max(n, 2)), 999, 999, 999, 999, 999);
                due("digest() of a ring, " + n, x.digest(), byParts(x));
            }
        });
        edge(36, "count() 0 to 7", () -> {
            PowerShares x = powers(pair(), 4, 9);
            long before = x.digest();
            due("again", x.digest(), before);
            x.lose(0);
            x.sheet(0, 0, 3);
            x.put(0, 0, 9, 9);
            due("FINDINGS and SHEETS are not in it", x.digest(), before);
            duePowers("digest()", x, 4, 9);
        });
    }

    private static long byParts(PowerShares x) {
        int n = x.count(0);
        int senderParts = 13 + n;
        long[] all = new long[16 + n * senderParts + (1 << n)];
        for (int what = 0; what < 8; what++) {
            all[what] = x.count(what);
        }
        int[] more = {x.fault(), x.feasible(), x.witness(), x.out(), x.admitted(), x.softer(), x.margin(), x.met()};
        for (int k = 0; k < 8; k++) {
            all[8 + k] = more[k];
        }
        for (int i = 0; i < n; i++) {
            int start = 16 + i * senderParts;
            for (int what = 0; what < 8; what++) {
                all[start + what] = x.info(i, what);
            }
            all[start + 8] = x.least(i, 0);
            all[start + 9] = x.least(i, 1);
            all[start + 10] = x.share(i, 0);
            all[start + 11] = x.share(i, 1);
            all[start + 12] = x.rest(i);
            for (int j = 0; j < n; j++) {
                all[start + 13 + j] = x.heard(i, j);
            }
        }
        for (int set = 0; set < 1 << n; set++) {
            all[16 + n * senderParts + set] = x.minor(set);
        }
        return wrapped(all);
    }
}
