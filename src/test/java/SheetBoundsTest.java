/** The bounds of the sheets, of counts and of the digest, promises 28 to 35, sentence by sentence. */
public final class SheetBoundsTest {
    private static final String ONES = "p10;p10;p10;p10;p10;p10;p10;p10";
    private static final int[] LEAST = {-128, -32768, Check.LEAST_INT};
    private static final int[] MOST = {127, 32767, Check.MOST_INT};

    public static void main(String[] args) {
        lostAtFirst();
        newSheets();
        sheetCalls();
        lose();
        layWraps();
        layCalls();
        get();
        copyRanges();
        copyWithin();
        copyCalls();
        write();
        writeCalls();
        findings();
        counts();
        countCalls();
        digest();
        digestOfParts();
        Check.end();
    }

    private static void itemsDue(TurnFeast x, int s, int form, int... due) {
        for (int i = 0; i < due.length; i++) {
            Check.due("get(" + s + ", " + form + ", " + i + ")", x.get(s, form, i), due[i]);
        }
    }

    /** SHEET s of ints with items 10, 11, 12 .. */
    private static void tens(TurnFeast x, int s, int n) {
        x.sheet(s, 2, n);
        for (int i = 0; i < n; i++) {
            x.lay(s, 2, i, 10 + i);
        }
    }

    private static TurnFeast twoSheets() {
        TurnFeast x = new TurnFeast();
        tens(x, 0, 5);
        x.sheet(1, 2, 3);
        x.sheet(2, 1, 3);
        return x;
    }

    private static void lostAtFirst() {
        Check.told("Terms", "SHEETS 0 .. 3 are LOST (at first)");
        for (int s = 0; s < 4; s++) {
            int it = s;
            Check.refused("lose(" + s + ")", TurnFeast::new, x -> x.lose(it), Check.NULL);
            Check.refused("lay(" + s + ", 0, 0, 0)", TurnFeast::new, x -> x.lay(it, 0, 0, 0), Check.NULL);
            Check.refused("get(" + s + ", 0, 0)", TurnFeast::new, x -> x.get(it, 0, 0), Check.LEAST_INT, 1);
            Check.refused("read(" + s + ")", TurnFeast::new, x -> x.read(it), Check.NULL);
            Check.refused("write(0, " + s + ")", TurnFeast::new, x -> x.write(0, it), Check.NULL);
            Check.refused("copy(" + s + ", ..)", TurnFeast::new, x -> x.copy(it, 0, it, 0, 0), Check.NULL);
        }
    }

    private static void newSheets() {
        Check.told("Terms", "a row of a FORM: 0 bytes, 1 shorts, 2 ints, of 0 to 60 items (0 at first)");
        for (int s = 0; s < 4; s++) {
            for (int form = 0; form < 3; form++) {
                TurnFeast x = new TurnFeast();
                Check.due("the fewest items", x.sheet(s, form, 0), 0);
                Check.due("item 0 of none", x.lay(s, form, 0, 1), Check.INDEX);
                Check.due("one item", x.sheet(s, form, 1), 1);
                Check.due("item 1 of one", x.lay(s, form, 1, 1), Check.INDEX);
                Check.due("the most items", x.sheet(s, form, 60), 60);
                for (int i = 0; i < 60; i++) {
                    Check.due("item " + i + " at first", x.get(s, form, i), 0);
                    x.lay(s, form, i, 100);
                }
                Check.due("item 59", x.get(s, form, 59), 100);
                Check.due("item 60 of 60", x.lay(s, form, 60, 1), Check.INDEX);
                for (int t = 0; t < 4; t++) {
                    Check.due("SHEET " + t + " is LOST", x.lose(t), t == s ? 60 : Check.NULL);
                }
            }
        }
    }

    private static void sheetCalls() {
        Check.told("Promise 28", "A SHEET is a new row of a FORM with n items: n.");
        TurnFeast x = new TurnFeast();
        tens(x, 0, 3);
        Check.due("anew, of the same FORM", x.sheet(0, 2, 3), 3);
        itemsDue(x, 0, 2, 0, 0, 0);
        tens(x, 0, 3);
        Check.due("anew, of fewer items", x.sheet(0, 2, 1), 1);
        Check.due("those are gone", x.lay(0, 2, 1, 0), Check.INDEX);
        Check.due("anew, of more items", x.sheet(0, 2, 3), 3);
        itemsDue(x, 0, 2, 0, 0, 0);
        Check.due("anew, of another FORM", x.sheet(0, 0, 3), 3);
        Check.due("the FORM that it had", x.lay(0, 2, 0, 0), Check.CAST);
        Check.due("anew, when LOST", x.lose(0) + x.sheet(0, 1, 2), 5);
        Check.told("Promise 28", "BAD: SHEET, FORM, above 60");
        Check.refused("sheet(4, 0, 0)", y -> y.sheet(4, 0, 0), Check.BAD);
        Check.refused("sheet(0, 3, 0)", y -> y.sheet(0, 3, 0), Check.BAD);
        Check.refused("sheet(0, 0, 61)", y -> y.sheet(0, 0, 61), Check.BAD);
        Check.refused("sheet(0, 0, the greatest)", y -> y.sheet(0, 0, Check.MOST_INT), Check.BAD);
        Check.refused("sheet(3, 0, 61)", y -> y.sheet(3, 0, 61), Check.BAD);
        for (int far : Check.FAR) {
            Check.refused("sheet(" + far + ", 0, 0)", y -> y.sheet(far, 0, 0), Check.BAD);
            Check.refused("sheet(0, " + far + ", 0)", y -> y.sheet(0, far, 0), Check.BAD);
        }
        Check.told("Promise 28", "SIZE / 5 SIZE: below 0");
        Check.refused("sheet(0, 0, -1)", SheetBoundsTest::twoSheets, y -> y.sheet(0, 0, -1), Check.SIZE);
        Check.refused("sheet(0, 2, the least)", SheetBoundsTest::twoSheets, y -> y.sheet(0, 2, Check.LEAST_INT), Check.SIZE);
        Check.refused("sheet(3, 1, -1) when LOST", SheetBoundsTest::twoSheets, y -> y.sheet(3, 1, -1), Check.SIZE);
        Check.told("Refusals", "the first that fits: BAD, .. other FINDINGS");
        Check.refused("sheet(4, 0, -1)", SheetBoundsTest::twoSheets, y -> y.sheet(4, 0, -1), Check.BAD);
        Check.refused("sheet(0, 3, -1)", SheetBoundsTest::twoSheets, y -> y.sheet(0, 3, -1), Check.BAD);
        Check.refused("sheet(-1, -1, -1)", SheetBoundsTest::twoSheets, y -> y.sheet(-1, -1, -1), Check.BAD);
    }

    private static void lose() {
        Check.told("Promise 29", "It is LOST: how many items it had.");
        for (int n : new int[] {0, 1, 59, 60}) {
            for (int s = 0; s < 4; s++) {
                TurnFeast x = new TurnFeast();
                for (int t = 0; t < 4; t++) {
                    x.sheet(t, t % 3, t == s ? n : 7);
                }
                Check.due("lose(" + s + ") of " + n, x.lose(s), n);
                Check.due("lose(" + s + ") again", x.lose(s), Check.NULL);
                Check.due("the others stay", x.lose((s + 1) % 4), 7);
            }
        }
        Check.told("Promise 29", "BAD; NULL.");
        Check.refused("lose(4)", y -> y.lose(4), Check.BAD);
        Check.refused("lose(3), LOST", y -> y.lose(3), Check.NULL);
        for (int far : Check.FAR) {
            Check.refused("lose(" + far + ")", y -> y.lose(far), Check.BAD);
        }
    }

    private static void layWraps() {
        Check.told("Promise 30", "Item i, treated as of a FORM, becomes v (the lowest bits that it has): 1.");
        for (int form = 0; form < 3; form++) {
            TurnFeast x = new TurnFeast();
            x.sheet(3, form, 3);
            int[] laid = {LEAST[form], MOST[form], LEAST[form] - 1, MOST[form] + 1, 0, -1};
            int[] kept = {LEAST[form], MOST[form], MOST[form], LEAST[form], 0, -1};
            for (int k = 0; k < laid.length; k++) {
                Check.due("lay", x.lay(3, form, 1, laid[k]), 1);
                itemsDue(x, 3, form, 0, kept[k], 0);
            }
        }
        TurnFeast y = new TurnFeast();
        y.sheet(0, 0, 1);
        int[][] bytes = {{127, 127}, {128, -128}, {255, -1}, {256, 0}, {-129, 127}, {-256, 0}, {Check.MOST_INT, -1},
            {Check.LEAST_INT, 0}, {65663, 127}};
        for (int[] q : bytes) {
            y.lay(0, 0, 0, q[0]);
            Check.due("a byte of " + q[0], y.get(0, 0, 0), q[1]);
        }
        y.sheet(0, 1, 1);
        int[][] shorts = {{255, 255}, {32767, 32767}, {32768, -32768}, {65535, -1}, {65536, 0}, {-32769, 32767},
            {Check.MOST_INT, -1}, {Check.LEAST_INT, 0}};
        for (int[] q : shorts) {
            y.lay(0, 1, 0, q[0]);
            Check.due("a short of " + q[0], y.get(0, 1, 0), q[1]);
        }
    }

    private static void layCalls() {
        Check.told("Promise 30", "BAD; NULL; CAST; INDEX.");
        Check.refused("lay(4, 0, 0, 1)", y -> y.lay(4, 0, 0, 1), Check.BAD);
        Check.refused("lay(0, 3, 0, 1)", y -> y.lay(0, 3, 0, 1), Check.BAD);
        Check.refused("lay(3, 0, 0, 1), LOST", y -> y.lay(3, 0, 0, 1), Check.NULL);
        for (int far : Check.FAR) {
            Check.refused("lay(" + far + ", 0, 0, 1)", y -> y.lay(far, 0, 0, 1), Check.BAD);
            Check.refused("lay(0, " + far + ", 0, 1)", y -> y.lay(0, far, 0, 1), Check.BAD);
            Check.refused("lay(0, 0, " + far + ", 1)", y -> y.lay(0, 0, far, 1), Check.INDEX);
        }
        for (int s = 0; s < 3; s++) {
            for (int form = 0; form < 3; form++) {
                int it = s;
                int as = form;
                if (s != form) {
                    Check.refused("lay(" + s + ", " + form + ", 0, 1)", y -> y.lay(it, as, 0, 1), Check.CAST);
                }
            }
        }
        Check.refused("lay(0, 0, 3, 1) of three", y -> y.lay(0, 0, 3, 1), Check.INDEX);
        Check.refused("lay(2, 2, 0, 1) of none", y -> y.lay(2, 2, 0, 1), Check.INDEX);
        Check.told("Refusals", "the first that fits, in the order told at each act: BAD, NULL, .. CAST, INDEX");
        Check.refused("BAD before NULL", y -> y.lay(3, 3, 0, 1), Check.BAD);
        Check.refused("BAD before INDEX", y -> y.lay(0, -1, 99, 1), Check.BAD);
        Check.refused("NULL before CAST and INDEX", y -> y.lay(3, 2, -1, 1), Check.NULL);
        Check.refused("CAST before INDEX", y -> y.lay(0, 1, 3, 1), Check.CAST);
        Check.refused("CAST before INDEX, below 0", y -> y.lay(0, 2, -1, 1), Check.CAST);
        Check.refused("a FORM that it had before it was LOST", () -> {
            TurnFeast y = twoSheets();
            y.lose(0);
            return y;
        }, y -> y.lay(0, 1, 0, 1), Check.NULL);
    }

    private static void get() {
        Check.told("Promise 31", "Item i of it.");
        TurnFeast x = new TurnFeast();
        tens(x, 0, 60);
        Check.due("the first", x.get(0, 2, 0), 10);
        Check.due("the last", x.get(0, 2, 59), 69);
        Check.due("no FINDING by it", x.count(8), 0);
        x.lay(0, 2, 0, Check.LEAST_INT);
        Check.due("an item that is the least int", x.get(0, 2, 0), Check.LEAST_INT);
        Check.due("no FINDING by that either", x.count(8), 0);
        Check.changesNothing("get(0, 0, 1)", Check::busy, y -> y.get(0, 0, 1));
        Check.told("Promise 31", "BAD: the least int");
        Check.refused("get(4, 0, 0)", y -> y.get(4, 0, 0), Check.LEAST_INT);
        Check.refused("get(0, 3, 0)", y -> y.get(0, 3, 0), Check.LEAST_INT);
        Check.refused("get(4, 0, 0) before any FINDING", TurnFeast::new, y -> y.get(4, 0, 0), Check.LEAST_INT);
        for (int far : Check.FAR) {
            Check.refused("get(" + far + ", 0, 0)", y -> y.get(far, 0, 0), Check.LEAST_INT);
            Check.refused("get(0, " + far + ", 0)", y -> y.get(0, far, 0), Check.LEAST_INT);
            Check.refused("get(0, 0, " + far + ")", Check::busy, y -> y.get(0, 0, far), Check.LEAST_INT, 2);
        }
        Check.told("Promise 31", "so are NULL, CAST, INDEX (count() 8 tells)");
        getRefused("LOST", 3, 0, 0, 1);
        getRefused("bytes as shorts", 0, 1, 0, 3);
        getRefused("shorts as ints", 1, 2, 0, 3);
        getRefused("ints as bytes", 2, 0, 0, 3);
        getRefused("item 3 of three", 0, 0, 3, 2);
        getRefused("item 0 of none", 2, 2, 0, 2);
        getRefused("NULL before CAST and INDEX", 3, 2, -1, 1);
        getRefused("CAST before INDEX", 0, 1, 3, 3);
        Check.refused("BAD before NULL", y -> y.get(3, 3, 0), Check.LEAST_INT);
        Check.refused("BAD before INDEX", y -> y.get(0, 3, 99), Check.LEAST_INT);
    }

    private static void getRefused(String told, int s, int form, int i, int finding) {
        Check.refused(told, Check::busy, y -> y.get(s, form, i), Check.LEAST_INT, finding);
    }

    private static void copyRanges() {
        Check.told("Promise 32", "n items of SHEET s, from i on, come to SHEET t .. from j on: 1.");
        TurnFeast x = twoSheets();
        Check.due("none, from the first", x.copy(0, 0, 1, 0, 0), 1);
        Check.due("none, from the end", x.copy(0, 5, 1, 3, 0), 1);
        itemsDue(x, 1, 2, 0, 0, 0);
        Check.due("the last to the last", x.copy(0, 4, 1, 2, 1), 1);
        itemsDue(x, 1, 2, 0, 0, 14);
        Check.due("the first to the first", x.copy(0, 0, 1, 0, 1), 1);
        itemsDue(x, 1, 2, 10, 0, 14);
        Check.due("as many as there is room", x.copy(0, 2, 1, 0, 3), 1);
        itemsDue(x, 1, 2, 12, 13, 14);
        itemsDue(x, 0, 2, 10, 11, 12, 13, 14);
        TurnFeast most = new TurnFeast();
        tens(most, 3, 60);
        most.sheet(2, 2, 60);
        Check.due("sixty", most.copy(3, 0, 2, 0, 60), 1);
        Check.due("the first of sixty", most.get(2, 2, 0), 10);
        Check.due("the last of sixty", most.get(2, 2, 59), 69);
        TurnFeast none = new TurnFeast();
        none.sheet(0, 0, 0);
        Check.due("none of none", none.copy(0, 0, 0, 0, 0), 1);
        Check.told("Promise 32", "INDEX: below 0, not so many");
        int[][] wrong = {{-1, 0, 1}, {0, -1, 1}, {0, 0, -1}, {-1, 0, 0}, {0, -1, 0}, {0, 0, 4}, {2, 0, 4}, {5, 0, 1},
            {3, 0, 3}, {0, 3, 1}, {0, 1, 3}, {6, 0, 0}, {0, 4, 0}, {-1, -1, -1}, {Check.MOST_INT, 0, 1},
            {1, 0, Check.MOST_INT}, {0, Check.MOST_INT, 1}, {0, 1, Check.MOST_INT}, {Check.LEAST_INT, 0, 1},
            {0, Check.LEAST_INT, 1}, {0, 0, Check.LEAST_INT}, {Check.MOST_INT, Check.MOST_INT, Check.MOST_INT},
            {Check.LEAST_INT, Check.LEAST_INT, Check.LEAST_INT}, {-1, 0, Check.LEAST_INT}, {2, 2, Check.LEAST_INT}};
        for (int[] q : wrong) {
            Check.refused("copy(0, " + q[0] + ", 1, " + q[1] + ", " + q[2] + ")", SheetBoundsTest::twoSheets,
                y -> y.copy(0, q[0], 1, q[1], q[2]), Check.INDEX);
        }
        Check.refused("the other is too small", SheetBoundsTest::twoSheets, y -> y.copy(1, 0, 0, 3, 3), Check.INDEX);
        Check.refused("the same is too small", SheetBoundsTest::twoSheets, y -> y.copy(0, 0, 0, 1, 5), Check.INDEX);
    }

    private static void copyWithin() {
        Check.told("Promise 32", "(perhaps s, as they were)");
        int[][] moves = {{0, 1, 4}, {1, 0, 4}, {0, 2, 3}, {2, 0, 3}, {0, 4, 1}, {4, 0, 1}, {0, 0, 5}, {5, 5, 0}};
        int[][] due = {{10, 10, 11, 12, 13}, {11, 12, 13, 14, 14}, {10, 11, 10, 11, 12}, {12, 13, 14, 13, 14},
            {10, 11, 12, 13, 10}, {14, 11, 12, 13, 14}, {10, 11, 12, 13, 14}, {10, 11, 12, 13, 14}};
        for (int k = 0; k < moves.length; k++) {
            TurnFeast x = twoSheets();
            int[] q = moves[k];
            Check.due("copy(0, " + q[0] + ", 0, " + q[1] + ", " + q[2] + ")", x.copy(0, q[0], 0, q[1], q[2]), 1);
            itemsDue(x, 0, 2, due[k]);
        }
    }

    private static void copyCalls() {
        Check.told("Promise 32", "BAD: the SHEETS; NULL: s, t; STORE");
        Check.refused("copy(4, 0, 0, 0, 0)", y -> y.copy(4, 0, 0, 0, 0), Check.BAD);
        Check.refused("copy(0, 0, 4, 0, 0)", y -> y.copy(0, 0, 4, 0, 0), Check.BAD);
        for (int far : Check.FAR) {
            Check.refused("copy(" + far + ", 0, 0, 0, 0)", y -> y.copy(far, 0, 0, 0, 0), Check.BAD);
            Check.refused("copy(0, 0, " + far + ", 0, 0)", y -> y.copy(0, 0, far, 0, 0), Check.BAD);
        }
        Check.refused("from a LOST one", y -> y.copy(3, 0, 0, 0, 0), Check.NULL);
        Check.refused("to a LOST one", y -> y.copy(0, 0, 3, 0, 0), Check.NULL);
        Check.refused("within a LOST one", y -> y.copy(3, 0, 3, 0, 0), Check.NULL);
        Check.refused("bytes to shorts", y -> y.copy(0, 0, 1, 0, 1), Check.STORE);
        Check.refused("shorts to bytes", y -> y.copy(1, 0, 0, 0, 1), Check.STORE);
        Check.refused("bytes to ints, none", y -> y.copy(0, 0, 2, 0, 0), Check.STORE);
        Check.told("Refusals", "the first that fits, in the order told at each act: BAD, NULL, .. STORE, INDEX");
        Check.refused("BAD before NULL, t", y -> y.copy(3, 0, 4, 0, 0), Check.BAD);
        Check.refused("BAD before NULL, s", y -> y.copy(-1, 0, 3, 0, 0), Check.BAD);
        Check.refused("NULL before STORE and INDEX, s", y -> y.copy(3, -1, 1, 0, 9), Check.NULL);
        Check.refused("NULL before STORE and INDEX, t", y -> y.copy(1, -1, 3, 0, 9), Check.NULL);
        Check.refused("STORE before INDEX", y -> y.copy(0, -1, 1, 0, 1), Check.STORE);
        Check.refused("STORE before INDEX, too many", y -> y.copy(0, 0, 1, 0, 99), Check.STORE);
    }

    private static void write() {
        Check.told("Promise 33", "What houses 0 on GIVE to all (what = 0), TALES (1) comes to a SHEET from item 0 on, as many "
            + "as there are items and houses: how many.");
        for (int items = 0; items <= 4; items++) {
            TurnFeast x = Check.village("p10;p20;p30", "060d0;030d0");
            tens(x, 0, items);
            int n = Math.min(items, 3);
            Check.due("write(0, 0) to " + items, x.write(0, 0), n);
            int[] gives = {2, 4, 3, 13};
            int[] tales = {0, 1, 1, 13};
            for (int i = 0; i < items; i++) {
                Check.due("item " + i + " of " + items, x.get(0, 2, i), gives[i]);
            }
            Check.due("write(1, 0) to " + items, x.write(1, 0), n);
            for (int i = 0; i < items; i++) {
                Check.due("item " + i + " of " + items, x.get(0, 2, i), tales[i]);
            }
            Check.due("it has as many items", x.lose(0), items);
        }
        TurnFeast none = Check.village("", "060d0");
        tens(none, 3, 60);
        Check.due("no houses", none.write(0, 3), 0);
        Check.due("item 0 stays", none.get(3, 2, 0), 10);
        TurnFeast eight = Check.village(ONES, "080d0");
        eight.sheet(1, 0, 60);
        Check.due("eight houses", eight.write(0, 1), 8);
        itemsDue(eight, 1, 0, 1, 1, 1, 1, 1, 1, 1, 1, 0);
        Check.due("eight houses' tales", eight.write(1, 1), 8);
        itemsDue(eight, 1, 0, 0, 0, 0, 0, 0, 0, 0, 1, 0);
        TurnFeast turned = Check.village("p10;p20", "990d0", 1, 0);
        turned.sheet(0, 1, 2);
        turned.write(0, 0);
        itemsDue(turned, 0, 1, 1, 2);
        TurnFeast most = Check.village("s90;p90", "990d0;990d0;990d0;990d0;990d0;990d0;990d0;990d0");
        most.sheet(0, 0, 2);
        most.write(0, 0);
        itemsDue(most, 0, 0, 72, 88);
    }

    private static void writeCalls() {
        Check.told("Promise 33", "BAD; NULL.");
        Check.refused("write(2, 0)", y -> y.write(2, 0), Check.BAD);
        Check.refused("write(0, 4)", y -> y.write(0, 4), Check.BAD);
        Check.refused("write(0, 3), LOST", y -> y.write(0, 3), Check.NULL);
        Check.refused("write(1, 3), LOST", y -> y.write(1, 3), Check.NULL);
        Check.refused("write(0, 0), LOST, no houses", TurnFeast::new, y -> y.write(0, 0), Check.NULL);
        Check.refused("BAD before NULL", y -> y.write(2, 3), Check.BAD);
        for (int far : Check.FAR) {
            Check.refused("write(" + far + ", 0)", y -> y.write(far, 0), Check.BAD);
            Check.refused("write(0, " + far + ")", y -> y.write(0, far), Check.BAD);
        }
    }

    private static void findings() {
        Check.told("Terms", "FINDINGS (answers -10 less the number; they change nothing but count() 8): 1 NULL: the SHEET is "
            + "LOST; 2 INDEX: there is no such item; 3 CAST: it has another FORM; 4 STORE: unlike FORMS; 5 SIZE: below 0.");
        TurnFeast x = twoSheets();
        Check.due("none yet", x.count(8), 0);
        Check.due("NULL", x.lose(3), -11);
        Check.due("its number", x.count(8), 1);
        Check.due("INDEX", x.lay(0, 2, 5, 0), -12);
        Check.due("its number", x.count(8), 2);
        Check.due("CAST", x.lay(0, 1, 0, 0), -13);
        Check.due("its number", x.count(8), 3);
        Check.due("STORE", x.copy(0, 0, 2, 0, 1), -14);
        Check.due("its number", x.count(8), 4);
        Check.due("SIZE", x.sheet(0, 0, -1), -15);
        Check.due("its number", x.count(8), 5);
        Check.due("NULL again", x.read(3), -11);
        Check.due("its number, the latest", x.count(8), 1);
        Check.told("Promise 34", "8 the number of the latest FINDING (0 before any): it stays");
        x.type(0, 'p');
        x.type(0, 256);
        x.undo(1);
        x.sheet(0, 0, 61);
        x.sheet(0, 0, 60);
        x.get(4, 0, 0);
        x.get(0, 0, 0);
        x.copy(0, 0, 0, 0, 1);
        x.wipe(0);
        x.forget();
        x.digest();
        Check.due("by calls that are well, BAD or NOT", x.count(8), 1);
    }

    private static void counts() {
        Check.told("Promise 34", "0 houses, 1 GUESTS, 2, 3 bytes of texts, 4 what all houses GIVE, 5 GUESTS that SLEEP, "
            + "6 EMPTY, as bits, 7 SEEN, 8 the number of the latest FINDING (0 before any).");
        countsDue("a new one", new TurnFeast(), 0, 0, 0, 0, 0, 0, 0, 0, 0);
        countsDue("a busy one", Check.busy(), 4, 5, 15, 29, 24, 0, 4, 2, 5);
        TurnFeast all = Check.village(ONES, "080d0;080d0;080d0;080d0;080d0;080d0;080d0;080d0");
        countsDue("all eat, all sleep", all, 8, 8, 31, 47, 64, 8, 0, 0, 0);
        all.set(1, 255);
        countsDue("all are EMPTY", all, 8, 8, 31, 47, 0, 0, 255, 0, 0);
        all.set(1, 0);
        all.undo(0);
        countsDue("houses with a FAULT", all, 0, 8, 30, 47, 0, 0, 0, 0, 0);
        all.type(0, '0');
        all.undo(1);
        countsDue("GUESTS with a FAULT", all, 8, 0, 31, 46, 0, 0, 0, 0, 0);
        countsDue("one without HUNGER does not SLEEP", Check.village("p10", "000d0;010d0;020d0"),
            1, 3, 3, 17, 2, 1, 0, 0, 0);
    }

    private static void countsDue(String told, TurnFeast x, int... due) {
        for (int what = 0; what < due.length; what++) {
            Check.due(told + ", count(" + what + ")", x.count(what), due[what]);
        }
    }

    private static void countCalls() {
        Check.told("Promise 34", "BAD.");
        Check.refused("count(9)", y -> y.count(9), Check.BAD);
        Check.refused("count(-2)", y -> y.count(-2), Check.BAD);
        for (int far : Check.FAR) {
            Check.refused("count(" + far + ")", y -> y.count(far), Check.BAD);
        }
        for (int what = 0; what <= 8; what++) {
            int it = what;
            Check.changesNothing("count(" + what + ")", Check::busy, y -> y.count(it));
        }
    }

    private static long mixed(long... parts) {
        long h = 17;
        for (long v : parts) {
            h = 31 * h + v;
        }
        return h;
    }

    private static void digest() {
        Check.told("Promise 35", "h is 17; h becomes 31 h and each of .. as longs that wrap");
        Check.due("of nothing", new TurnFeast().digest(), mixed(0, 0, 0, 0, 0, 0, 0, 0, -1, -1, -1, 0, 0, -1));
        long[] house = {1, 0, 3, 0, 0, 0, 0, 0, -1, -1, 0, 2, 5, 0, 0, 0, 5, 0, 0, 0, 0, -2, -2, -2, 0, 1, 0, 0,
            0, 1, 0, 0};
        Check.due("of a house alone", Check.village("p25", "").digest(), mixed(house));
        Check.due("of a GUEST alone", Check.village("", "031u2").digest(),
            mixed(0, 1, 0, 5, 0, 0, 0, 0, -1, -1, 3, 1, 0, 2, -1, 3, 0, 0, 65535, -1, 0, 1, -1));
        Check.due("of both", Check.village("p95", "090d2").digest(),
            mixed(1, 1, 3, 5, 9, 1, 0, 0, -1, -1, 0, 9, 5, 0, 9, 1, -1, 0, 9, 0, 9, 0, 0, 9, 5, 16, 270, 30,
                9, 0, 1, 2, 0, 0, 0, 1, 65535, 9, 0, 0, 1, 0));
        Check.due("of texts with FAULTS", Check.village("p2", "031").digest(),
            mixed(0, 0, 2, 3, 0, 0, 0, 0, 2, 3, -1, 0, 0, -1));
        Check.told("Promise 35", "count() 0 to 7: not 8, nor the SHEETS");
        TurnFeast x = Check.full();
        x.lose(0);
        x.sheet(1, 1, 9);
        Check.due("with a FINDING and a SHEET", x.digest(), Check.full().digest());
        Check.told("Promise 35", "it tells of TURNED by at(), of EMPTY and SEEN by count()");
        TurnFeast alike = Check.village("p10;p10", "");
        long plain = alike.digest();
        alike.set(0, 1);
        Check.due("TURNED shows", alike.digest() == plain ? 1 : 0, 0);
        alike.set(0, 0);
        alike.set(1, 128);
        Check.due("EMPTY shows, of a house that there is not", alike.digest() == plain ? 1 : 0, 0);
        alike.set(1, 0);
        alike.seen(7, 0);
        Check.due("SEEN shows, of a house that there is not", alike.digest() == plain ? 1 : 0, 0);
        alike.forget();
        Check.due("as it was", alike.digest(), plain);
        Check.changesNothing("digest()", Check::busy, TurnFeast::digest);
        Check.changesNothing("digest() of eight", Check::full, TurnFeast::digest);
    }

    private static void digestOfParts() {
        Check.told("Promise 35", "of houses .. (as these are told), .. of GUESTS .. of houses gives(the GUEST, it)");
        Check.due("of a busy one", Check.busy().digest(), ofParts(Check.busy()));
        Check.due("of a full one", Check.full().digest(), ofParts(Check.full()));
        Check.due("without GUESTS", Check.village(ONES, "").digest(), ofParts(Check.village(ONES, "")));
        Check.due("TURNED", Check.village(ONES, "070d0;077u0", 1, 9).digest(), ofParts(Check.village(ONES, "070d0;077u0", 1, 9)));
        Check.due("COOK 2, LIVE 1", Check.village("p80;p50", "090d0;030d0").digest(),
            ofParts(Check.village("p80;p50", "090d0;030d0")));
        Check.due("FAST of more than none", Check.village(ONES, "010d0").digest(), ofParts(Check.village(ONES, "010d0")));
        Check.due("8, 9 and 10 given", Check.village("p80;p90;s90;p80", "990d0;000d0").digest(),
            ofParts(Check.village("p80;p90;s90;p80", "990d0;000d0")));
    }

    private static long ofParts(TurnFeast x) {
        long h = 17;
        for (int what = 0; what <= 7; what++) {
            h = 31 * h + x.count(what);
        }
        h = 31 * h + x.fault(0);
        h = 31 * h + x.fault(1);
        for (int it = 0; it < x.count(0); it++) {
            long[] each = {x.house(it, 0), x.house(it, 1), x.house(it, 2), x.at(it), x.all(it, 0), x.all(it, 1),
                x.price(it), x.live(it, 0), x.live(it, 1), x.cook(it, 0), x.cook(it, 1), x.fast(it, 0, 0),
                x.fast(it, 0, 1), x.soup(it, 0), x.road(5, it, 9, 0), x.road(5, it, 9, 1), x.season(7, 30, it, 0),
                x.season(7, 30, it, 1)};
            for (long v : each) {
                h = 31 * h + v;
            }
        }
        for (int g = 0; g < x.count(1); g++) {
            for (int what = 0; what < 8; what++) {
                h = 31 * h + (what < 4 ? x.guest(g, what) : x.fed(g, what - 4));
            }
            h = 31 * h + x.began(g);
            for (int it = 0; it < x.count(0); it++) {
                h = 31 * h + x.gives(g, it);
            }
        }
        long[] last = {x.poor(), x.passed(), x.twice(), x.ask()};
        for (long v : last) {
            h = 31 * h + v;
        }
        return h;
    }
}
