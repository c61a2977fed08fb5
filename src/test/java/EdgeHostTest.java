/** The sentences of SHEETS, SHELVES and ACTS of things, and of promises 40 to 49, that name a boundary. */
public final class EdgeHostTest {
    private static final Due due = new Due();
    private static final int MIN = Integer.MIN_VALUE;
    private static final int MAX = Integer.MAX_VALUE;
    /** Places that no row of 40 has. */
    private static final int[] OUTSIDE = {MIN, MIN + 1, -65536, -256, -1, 40, 256, 65536, 1 << 30, MAX - 1, MAX};

    public static void main(String[] args) {
        sheetBounds();
        sheetLengths();
        sheetBelow0();
        sheetMissing();
        sheetAnew();
        writeBounds();
        writeMissing();
        writeOutside();
        narrowed();
        itemBounds();
        itemOfAnotherSort();
        itemOutside();
        itemAsLowAsARefusal();
        goAllBounds();
        goAllOfNone();
        goAllOrder();
        goAllOutside();
        goAllLeftOut();
        goAllWhenOver();
        goAllWhatStoodAhead();
        wouldBeBounds();
        wouldBeOrder();
        wouldBeByItems();
        wouldBeNoAct();
        wouldBeOver();
        shelfBounds();
        shelfOfMissing();
        shelfNothing();
        shelfOfAKiteGone();
        takenBounds();
        takenNothing();
        takenRows();
        takenKinds();
        actOfNone();
        actWraps();
        actParts();
        actPartedBy0();
        traceBounds();
        traceOfTheLongest();
        traceOfPartedBy0();
        manyBounds();
        due.end("EdgeHostTest");
    }

    /** Promise 40: "BAD: no such SHEET, sort, n above 40"; these come ahead of -14. */
    private static void sheetBounds() {
        KiteSummons x = new KiteSummons();
        due.bad("40: SHEET", sheet -> x.sheet(sheet, 0, 1), -1, 4);
        due.bad("40: SHEET, to be missing", sheet -> x.sheet(sheet, -1, 1), -1, 4);
        due.bad("40: SHEET ahead of -14", sheet -> x.sheet(sheet, 0, -1), -1, 4);
        due.bad("40: sort", sort -> x.sheet(0, sort, 1), -2, 5);
        due.bad("40: sort ahead of -14", sort -> x.sheet(3, sort, -1), -2, 5);
        for (int sort = 0; sort <= 4; sort++) {
            for (int n : new int[] {41, 42, 100, 256, 65536, MAX}) {
                due.is("40: n above 40", x.sheet(0, sort, n), -1);
            }
            due.is("40: nothing came of it", x.item(0, sort, 0), -11);
        }
        for (int sheet = 0; sheet <= 3; sheet++) {
            due.is("40: SHEET " + sheet, x.sheet(sheet, 0, 1), 1);
        }
    }

    /** "40 at most": rows of 0, 1, 39 and 40 items, "all 0". */
    private static void sheetLengths() {
        KiteSummons x = new KiteSummons();
        for (int sort = 0; sort <= 4; sort++) {
            for (int n : new int[] {0, 1, 39, 40}) {
                due.is("40: a row of " + n, x.sheet(3, sort, n), 1);
                due.is("42: the first", x.item(3, sort, 0), n == 0 ? -12 : 0);
                due.is("42: the last", x.item(3, sort, n - 1), n == 0 ? -12 : 0);
                due.is("42: no more", x.item(3, sort, n), -12);
                x.shelf(0, 1, 3);
                due.is("46: how many", x.taken(0, 10 + sort), n);
            }
        }
    }

    /** "-14 a size below 0": the SHEET stays. */
    private static void sheetBelow0() {
        KiteSummons x = new KiteSummons();
        for (int sort = 0; sort <= 4; sort++) {
            for (int n : new int[] {-1, -2, -40, -256, -65536, MIN}) {
                due.is("40: a size below 0", x.sheet(1, sort, n), -14);
                due.is("40: it is missing yet", x.item(1, sort, 0), -11);
            }
        }
        x.sheet(1, 2, 2);
        x.write(1, 1, 77);
        due.is("40: a size below 0", x.sheet(1, 0, -1), -14);
        due.is("40: it stays", x.item(1, 2, 1), 77);
    }

    /** "or missing (sort -1; n counts nothing then)": n above 40 and below 0, too; "missing (at first)". */
    private static void sheetMissing() {
        KiteSummons x = new KiteSummons();
        for (int sheet = 0; sheet <= 3; sheet++) {
            due.is("T3: missing at first", x.item(sheet, 0, 0), -11);
            due.is("T3: missing at first", x.write(sheet, 0, 0), -11);
        }
        for (int n : new int[] {0, 1, 40, 41, -1, MIN, MAX}) {
            x.sheet(2, 3, 4);
            due.is("40: missing, n " + n, x.sheet(2, -1, n), 1);
            due.is("40: it is missing", x.item(2, 3, 0), -11);
            due.is("40: missing again", x.sheet(2, -1, n), 1);
        }
    }

    /** "A SHEET becomes a row of n of a sort, all 0": what was written is gone. */
    private static void sheetAnew() {
        KiteSummons x = new KiteSummons();
        for (int sort = 0; sort <= 4; sort++) {
            x.sheet(0, sort, 40);
            for (int i = 0; i < 40; i++) {
                x.write(0, i, -1);
            }
            x.sheet(0, sort, 2);
            x.sheet(0, sort, 40);
            for (int i = 0; i < 40; i += 13) {
                due.is("40: all 0", x.item(0, sort, i), 0);
            }
        }
    }

    /** Promise 41: "BAD: no such SHEET"; it comes first. */
    private static void writeBounds() {
        KiteSummons x = new KiteSummons();
        due.bad("41: SHEET", sheet -> x.write(sheet, 0, 0), -1, 4);
        due.bad("41: SHEET ahead of -12", sheet -> x.write(sheet, -1, 0), -1, 4);
        x.sheet(0, 0, 40);
        x.sheet(3, 0, 40);
        due.is("41: SHEET 0, the first", x.write(0, 0, 5), 1);
        due.is("41: SHEET 3, the last", x.write(3, 39, 6), 1);
        due.is("42: that", x.item(0, 0, 0), 5);
        due.is("42: that", x.item(3, 0, 39), 6);
        due.is("42: not another", x.item(0, 0, 39) + x.item(3, 0, 0), 0);
    }

    /** "-11 nothing where something is asked": ahead of "-12 a place outside". */
    private static void writeMissing() {
        KiteSummons x = new KiteSummons();
        for (int i : OUTSIDE) {
            due.is("41: missing", x.write(1, i, 0), -11);
        }
        due.is("41: missing", x.write(1, 0, 0), -11);
        x.sheet(1, 0, 1);
        due.is("41: it is there", x.write(1, 0, 0), 1);
        x.sheet(1, -1, 0);
        due.is("41: missing again", x.write(1, 0, 0), -11);
    }

    /** "-12 a place outside": of rows of each sort and some lengths. */
    private static void writeOutside() {
        for (int sort = 0; sort <= 4; sort++) {
            KiteSummons x = new KiteSummons();
            for (int n : new int[] {0, 1, 40}) {
                x.sheet(1, sort, n);
                for (int i : OUTSIDE) {
                    due.is("41: place " + i + " of " + n, x.write(1, i, 1), -12);
                }
                due.is("41: one behind the last of " + n, x.write(1, n, 1), -12);
                due.is("41: the last of " + n, x.write(1, n - 1, 0), n == 0 ? -12 : 1);
            }
        }
    }

    /** "narrowed to its sort (booleans: whether it is not 0)": at each edge of each sort. */
    private static void narrowed() {
        int[] vs = {0, 1, -1, 2, 127, 128, 129, 255, 256, 257, -127, -128, -129, -256, 32767, 32768, 65535, 65536, -32768,
            -32769, -65536, 1 << 24, MAX, MIN};
        int[] bytes = {0, 1, -1, 2, 127, -128, -127, -1, 0, 1, -127, -128, 127, 0, -1, 0, -1, 0, 0,
            -1, 0, 0, -1, 0};
        int[] shorts = {0, 1, -1, 2, 127, 128, 129, 255, 256, 257, -127, -128, -129, -256, 32767, -32768, -1, 0, -32768,
            32767, 0, 0, -1, 0};
        KiteSummons x = new KiteSummons();
        for (int sort = 0; sort <= 4; sort++) {
            x.sheet(sort % 4, sort, 3);
            for (int i = 0; i < vs.length; i++) {
                int[] are = {bytes[i], shorts[i], vs[i], vs[i], vs[i] == 0 ? 0 : 1};
                due.is("41: write", x.write(sort % 4, 2, vs[i]), 1);
                due.is("42: " + vs[i] + " in sort " + sort, x.item(sort % 4, sort, 2), are[sort]);
            }
        }
    }

    /** Promise 42: "taken for a sort (0 to 4 ..)"; "BAD: no such SHEET, sort". */
    private static void itemBounds() {
        KiteSummons x = new KiteSummons();
        for (int sort = 0; sort <= 4; sort++) {
            int s = sort;
            due.bad("42: SHEET", sheet -> x.item(sheet, s, 0), -1, 4);
        }
        due.bad("42: sort, of a missing one", sort -> x.item(0, sort, 0), -1, 5);
        x.sheet(0, 0, 1);
        due.bad("42: sort", sort -> x.item(0, sort, 0), -1, 5);
        due.bad("42: sort, and outside", sort -> x.item(0, sort, 1), -1, 5);
        due.is("42: least sort", x.item(0, 0, 0), 0);
        x.sheet(3, 4, 1);
        due.is("42: most sort", x.item(3, 4, 0), 0);
    }

    /** "-13 a thing of another sort": ahead of "-12", also of a row of none; a missing one has no sort. */
    private static void itemOfAnotherSort() {
        KiteSummons x = new KiteSummons();
        for (int sort = 0; sort <= 4; sort++) {
            for (int n = 0; n <= 1; n++) {
                x.sheet(0, sort, n);
                for (int as = 0; as <= 4; as++) {
                    boolean isSame = sort == as;
                    due.is("42: place 0", x.item(0, as, 0), !isSame ? -13 : n == 0 ? -12 : 0);
                    due.is("42: place 1", x.item(0, as, 1), !isSame ? -13 : -12);
                    due.is("42: place -1", x.item(0, as, -1), !isSame ? -13 : -12);
                }
            }
            due.is("42: a missing one", x.item(1, sort, 0), -11);
            due.is("42: a missing one, outside", x.item(1, sort, -1), -11);
        }
    }

    /** "-12 a place outside". */
    private static void itemOutside() {
        KiteSummons x = new KiteSummons();
        for (int sort = 0; sort <= 4; sort++) {
            for (int n : new int[] {0, 1, 40}) {
                x.sheet(2, sort, n);
                for (int i : OUTSIDE) {
                    due.is("42: place " + i + " of " + n, x.item(2, sort, i), -12);
                }
                due.is("42: one behind the last of " + n, x.item(2, sort, n), -12);
            }
        }
    }

    /** "(An item may be as low as these, too.)" */
    private static void itemAsLowAsARefusal() {
        KiteSummons x = new KiteSummons();
        for (int sort = 0; sort <= 3; sort++) {
            x.sheet(0, sort, 1);
            for (int v : new int[] {-1, -11, -12, -13}) {
                due.is("41: write", x.write(0, 0, v), 1);
                due.is("42: item " + v, x.item(0, sort, 0), v);
            }
        }
    }

    /** Promise 43: "n (0 to 20)"; "BAD: no such SHEET, n". */
    private static void goAllBounds() {
        KiteSummons x = new KiteSummons();
        x.sheet(0, 0, 40);
        x.sheet(3, 0, 40);
        due.bad("43: SHEET", sheet -> x.goAll(sheet, 0, 1), -1, 4);
        due.bad("43: n", n -> x.goAll(0, 0, n), -1, 21);
        due.bad("43: n of a missing one", n -> x.goAll(1, 0, n), -1, 21);
        due.is("43: none went by", x.state(0), 0);
        due.is("43: none", x.goAll(0, 0, 0), 0);
        due.is("43: none went by", x.state(0), 0);
        due.is("43: one", x.goAll(3, 39, 1), 0);
        due.is("43: one went by", x.state(0), 1);
        x.ends(16);
        due.is("43: 20 of 40, from 20 on", x.goAll(3, 20, 20), 0);
        due.is("43: to the end", x.state(0), 16);
    }

    /** n of 0: nothing is done, and no item is asked for, wherever i is; what the SHEET is counts. */
    private static void goAllOfNone() {
        KiteSummons x = new KiteSummons();
        x.sheet(0, 0, 0);
        x.sheet(1, 2, 4);
        for (int i : OUTSIDE) {
            due.is("43: none from " + i, x.goAll(0, i, 0), 0);
            due.is("44: none from " + i, x.wouldBe(0, i, 0), 0);
            due.is("43: of ints", x.goAll(1, i, 0), -13);
            due.is("44: of ints", x.wouldBe(1, i, 0), -13);
            due.is("43: of a missing one", x.goAll(2, i, 0), -11);
            due.is("44: of a missing one", x.wouldBe(2, i, 0), -11);
        }
        due.is("43: none went by", x.state(0), 0);
    }

    /** "of several the first named": BAD, -13, -11, -12. */
    private static void goAllOrder() {
        KiteSummons x = new KiteSummons();
        due.is("43: no such SHEET, n", x.goAll(4, -1, 21), -1);
        for (int sort = 1; sort <= 4; sort++) {
            x.sheet(0, sort, 1);
            due.is("43: n ahead of -13", x.goAll(0, 0, 21), -1);
            due.is("43: -13 ahead of -12", x.goAll(0, 1, 1), -13);
            due.is("43: -13", x.goAll(0, 0, 1), -13);
        }
        due.is("43: n ahead of -11", x.goAll(1, 0, -1), -1);
        due.is("43: -11 ahead of -12", x.goAll(1, -1, 1), -11);
        due.is("43: -11", x.goAll(1, 0, 1), -11);
        due.is("43: nothing was done", x.state(0), 0);
    }

    /** "-12": a place outside ahead of all items, also where i and n would wrap. */
    private static void goAllOutside() {
        KiteSummons x = new KiteSummons();
        x.sheet(0, 0, 40);
        for (int i : OUTSIDE) {
            for (int n : new int[] {1, 2, 20}) {
                due.is("43: from " + i, x.goAll(0, i, n), -12);
                due.is("44: from " + i, x.wouldBe(0, i, n), -12);
            }
        }
        x.sheet(1, 0, 0);
        due.is("43: of a row of none", x.goAll(1, 0, 1), -12);
        due.is("44: of a row of none", x.wouldBe(1, 0, 1), -12);
        due.is("43: nothing was done", x.state(0), 0);
    }

    /** "(what is none .. is left out)": below 0, and above how many KITES there are. */
    private static void goAllLeftOut() {
        for (int kites = 0; kites <= 6; kites++) {
            KiteSummons x = Due.still();
            for (int k = 0; k < kites; k++) {
                x.kite(4, 0, 0, 0);
            }
            Due.bytes(x, 0, -1, kites + 1, -128, 127, 0, kites);
            due.is("43: no ACTS, of " + kites, x.goAll(0, 0, 4), 0);
            due.is("43: no GUST went by", x.state(0), 0);
            due.is("43: ACT 0, and the greatest", x.goAll(0, 4, 2), kites == 0 ? 0 : 12);
            due.is("43: two GUSTS went by", x.state(0), 2);
            due.is("43: the last KITE is SERVED", x.state(5), kites == 0 ? 0 : 1 << kites - 1);
            due.is("43: all of them once more", x.goAll(0, 0, 6), 0);
            due.is("43: two more went by", x.state(0), 4);
        }
    }

    /** "(.. or when it is OVER, is left out)": what comes first counts. */
    private static void goAllWhenOver() {
        KiteSummons x = Due.still();
        for (int k = 0; k < 4; k++) {
            x.kite(4, 0, 0, 0);
        }
        Due.bytes(x, 0, 1, 2, 3, 4);
        x.ends(3);
        due.is("43: three GUSTS are left", x.goAll(0, 0, 4), 36);
        due.is("43: three are SERVED", x.state(5), 7);
        due.is("43: SCORE", x.state(2), 36);
        due.is("43: OVER", x.goAll(0, 0, 4), 0);
        due.is("43: GUST", x.state(0), 3);
        due.is("43: outside though it is OVER", x.goAll(0, 3, 2), -12);
    }

    /** "-12: what stood ahead was done". */
    private static void goAllWhatStoodAhead() {
        for (int i = 0; i < 4; i++) {
            KiteSummons x = Due.still();
            for (int k = 0; k < 4; k++) {
                x.kite(4, 0, 0, 0);
            }
            Due.bytes(x, 0, 1, 2, 3, 4);
            due.is("43: one too many", x.goAll(0, i, 5 - i), -12);
            due.is("43: those ahead went by", x.state(0), 4 - i);
            due.is("43: those ahead are SERVED", x.state(5), 15 & ~((1 << i) - 1));
            due.is("43: those ahead were WORTH so much", x.state(2), 12 * (4 - i));
        }
    }

    /** Promise 44: "n (0 to 20)"; "BAD: no such SHEET, n". */
    private static void wouldBeBounds() {
        KiteSummons x = new KiteSummons();
        x.ends(16);
        x.sheet(0, 0, 40);
        x.sheet(3, 0, 40);
        due.bad("44: SHEET", sheet -> x.wouldBe(sheet, 0, 1), -1, 4);
        due.bad("44: n", n -> x.wouldBe(0, 0, n), -1, 21);
        due.bad("44: n of a missing one", n -> x.wouldBe(1, 0, n), -1, 21);
        due.is("44: none", x.wouldBe(0, 0, 0), 0);
        due.is("44: one", x.wouldBe(3, 39, 1), 0);
        due.is("44: 16 GUSTS", x.wouldBe(3, 24, 16), 0);
        due.is("44: no 17th", x.wouldBe(3, 0, 17), -4);
        due.is("44: nor 20", x.wouldBe(3, 20, 20), -4);
        due.is("44: none went by", x.state(0), 0);
    }

    /** "of several the first named": BAD, -13, -11. */
    private static void wouldBeOrder() {
        KiteSummons x = new KiteSummons();
        due.is("44: no such SHEET, n", x.wouldBe(4, -1, 21), -1);
        for (int sort = 1; sort <= 4; sort++) {
            x.sheet(0, sort, 1);
            x.write(0, 0, 99);
            due.is("44: n ahead of -13", x.wouldBe(0, 0, 21), -1);
            due.is("44: -13 ahead of -12", x.wouldBe(0, 1, 1), -13);
            due.is("44: -13 ahead of STATE", x.wouldBe(0, 0, 1), -13);
        }
        due.is("44: n ahead of -11", x.wouldBe(1, 0, -1), -1);
        due.is("44: -11 ahead of -12", x.wouldBe(1, -1, 1), -11);
    }

    /** "then, by items, -12; STATE": the first item that is refused tells. */
    private static void wouldBeByItems() {
        KiteSummons x = Due.still();
        x.kite(4, 0, 0, 0);
        Due.bytes(x, 0, 1, 9, 0);
        due.is("44: no ACT, then outside", x.wouldBe(0, 1, 3), -4);
        due.is("44: outside, no ACT ahead of it", x.wouldBe(0, 2, 2), -12);
        due.is("44: no ACT is behind those", x.wouldBe(0, 0, 1), 12);
        x.ends(1);
        Due.bytes(x, 1, 1);
        due.is("44: outside, and OVER", x.wouldBe(1, 0, 2), -12);
        Due.bytes(x, 1, 1, 0);
        due.is("44: OVER, then outside", x.wouldBe(1, 0, 3), -4);
    }

    /** "STATE: one is no ACT": below 0, and above how many KITES there are. */
    private static void wouldBeNoAct() {
        for (int kites = 0; kites <= 6; kites++) {
            KiteSummons x = Due.still();
            for (int k = 0; k < kites; k++) {
                x.kite(4, 0, 0, 0);
            }
            Due.bytes(x, 0, -1, kites + 1, -128, 127, 0, kites);
            for (int i = 0; i < 4; i++) {
                due.is("44: no ACT, of " + kites, x.wouldBe(0, i, 1), -4);
            }
            due.is("44: the least ACT", x.wouldBe(0, 4, 1), 0);
            due.is("44: the greatest, too", x.wouldBe(0, 4, 2), kites == 0 ? 0 : 12);
            due.is("44: none went by", x.state(0), 0);
        }
    }

    /** "STATE: .. or it would be OVER ahead of it": now, and behind those ahead. */
    private static void wouldBeOver() {
        KiteSummons x = Due.still();
        for (int k = 0; k < 4; k++) {
            x.kite(4, 0, 0, 0);
        }
        Due.bytes(x, 0, 1, 2, 3, 4);
        for (int end = 1; end <= 4; end++) {
            x.ends(end);
            for (int n = 0; n <= 4; n++) {
                due.is("44: " + n + ", END " + end, x.wouldBe(0, 0, n), n <= end ? 12 * n : -4);
            }
        }
        x.ends(1);
        x.gust();
        due.is("44: OVER", x.wouldBe(0, 0, 1), -4);
        due.is("44: OVER, none", x.wouldBe(0, 0, 0), 0);
        x.ends(2);
        due.is("44: one is left", x.wouldBe(0, 1, 1), 12);
        due.is("44: SCORE ahead counts nothing", x.state(2), 12);
    }

    /** Promise 45: "BAD: no such SHELF, what, thing". */
    private static void shelfBounds() {
        KiteSummons x = new KiteSummons();
        x.sheet(0, 0, 1);
        for (int what = 0; what <= 2; what++) {
            int w = what;
            due.bad("45: SHELF", shelf -> x.shelf(shelf, w, 0), -1, 4);
        }
        due.bad("45: what", what -> x.shelf(0, what, 0), -1, 3);
        due.bad("45: KITE of none", k -> x.shelf(0, 0, k), -1, 0);
        for (int k = 0; k < 6; k++) {
            x.kite(1, 0, 0, 0);
            int all = k;
            due.bad("45: KITE", n -> x.shelf(3, 0, n), -1, all + 1, 6);
            due.is("45: the last KITE", x.shelf(3, 0, k), 1);
            due.is("46: that", x.taken(3, 0), k);
        }
        due.bad("45: SHEET", n -> x.shelf(3, 1, n), -1, 4);
        due.is("46: it stays", x.taken(3, 0), 5);
        due.is("45: SHEET 0", x.shelf(0, 1, 0), 1);
        due.is("45: SHEET 3", x.shelf(0, 1, 3), 1);
    }

    /** "the row of SHEET n (1; nothing, if missing)". */
    private static void shelfOfMissing() {
        KiteSummons x = new KiteSummons();
        x.kite(1, 0, 0, 0);
        x.shelf(0, 0, 0);
        due.is("45: a missing one", x.shelf(0, 1, 2), 1);
        due.is("46: nothing", x.taken(0, 0), -11);
        due.is("46: nothing", x.taken(0, 10), -11);
        x.sheet(2, 0, 3);
        due.is("46: nothing yet", x.taken(0, 10), -11);
        x.shelf(0, 1, 2);
        due.is("46: the row", x.taken(0, 10), 3);
        x.sheet(2, -1, 0);
        x.shelf(0, 1, 2);
        due.is("46: nothing again", x.taken(0, 10), -11);
    }

    /** "nothing (2)": whatever n is; "nothing (at first)". */
    private static void shelfNothing() {
        KiteSummons x = new KiteSummons();
        x.kite(1, 0, 0, 0);
        for (int shelf = 0; shelf <= 3; shelf++) {
            due.is("T3: nothing at first", x.taken(shelf, 0), -11);
            due.is("T3: nothing at first", x.taken(shelf, 14), -11);
            due.is("T3: nothing at first acts", x.act(shelf, 0, 5), 0);
            for (int n : new int[] {MIN, -1, 0, 5, 99, MAX}) {
                x.shelf(shelf, 0, 0);
                due.is("45: nothing, n " + n, x.shelf(shelf, 2, n), 1);
                due.is("46: nothing", x.taken(shelf, 0), -11);
            }
        }
    }

    /** "hold a KITE (by its number; nothing, if there is no such one at the time)". */
    private static void shelfOfAKiteGone() {
        KiteSummons x = new KiteSummons();
        x.kite(1, 0, 0, 0);
        x.keep();
        x.kite(4, 0, 0, 0);
        x.shelf(0, 0, 0);
        x.shelf(1, 0, 1);
        x.act(1, 0, 1);
        due.is("51: one KITE", x.again(), 1);
        due.is("46: KITE 0 is there", x.taken(0, 1), 0);
        due.is("46: KITE 1 is not", x.taken(1, 4), -11);
        due.is("46: nothing, taken for another KIND", x.taken(1, 1), -11);
        due.is("46: nothing, taken for a row", x.taken(1, 10), -11);
        due.is("47: it doesn't act", x.act(1, 0, 1), 0);
        due.is("49: no TRACE", x.many(6), 0);
        due.is("45: no such KITE now", x.shelf(1, 0, 1), -1);
        x.kite(5, 0, 0, 0);
        due.is("46: KITE 1 is another one", x.taken(1, 5), 1);
        due.is("47: it acts", x.act(1, 0, 1), 6);
    }

    /** Promise 46: "BAD: no such SHELF, as": 0 to 5, and 10 to 14. */
    private static void takenBounds() {
        KiteSummons x = new KiteSummons();
        due.bad("46: SHELF", shelf -> x.taken(shelf, 0), -1, 4);
        due.bad("46: SHELF", shelf -> x.taken(shelf, 14), -1, 4);
        due.bad("46: as, of nothing", as -> x.taken(0, as), -1, 6, 7, 8, 9, 15, 16);
        x.kite(3, 0, 0, 0);
        x.shelf(0, 0, 0);
        due.bad("46: as, of a KITE", as -> x.taken(0, as), -1, 6, 7, 8, 9, 15, 16);
        x.sheet(0, 4, 9);
        x.shelf(0, 1, 0);
        due.bad("46: as, of a row", as -> x.taken(0, as), -1, 6, 7, 8, 9, 15, 16);
        due.is("46: most as", x.taken(0, 14), 9);
    }

    /** "-11": nothing, taken for each KIND and for each sort. */
    private static void takenNothing() {
        KiteSummons x = new KiteSummons();
        for (int as = 0; as <= 14; as++) {
            due.is("46: nothing as " + as, x.taken(2, as), as >= 6 && as <= 9 ? -1 : -11);
        }
    }

    /** "for a row of sort as - 10 (as 10 to 14): how many items"; "-13" for all else; of rows of none and of 40. */
    private static void takenRows() {
        KiteSummons x = new KiteSummons();
        for (int sort = 0; sort <= 4; sort++) {
            for (int n = 0; n <= 40; n += 40) {
                x.sheet(3, sort, n);
                x.shelf(3, 1, 3);
                for (int as = 0; as <= 14; as++) {
                    due.is("46: " + n + " of sort " + sort + " as " + as, x.taken(3, as),
                        as >= 6 && as <= 9 ? -1 : as == 10 + sort ? n : -13);
                }
            }
        }
    }

    /** "a thing of KIND as (0 to 5, or one under it): its number"; "-13" for all else. */
    private static void takenKinds() {
        int[][] isUnder = {{1, 1, 0, 0, 0, 0}, {1, 0, 1, 0, 0, 0}, {1, 0, 1, 1, 0, 0}, {1, 0, 0, 0, 1, 0}, {1, 0, 0, 0, 1, 1}};
        KiteSummons x = new KiteSummons();
        x.kite(1, 0, 0, 0);
        for (int k = 1; k <= 5; k++) {
            x.kite(k, 0, 0, 0);
            x.shelf(0, 0, k);
            for (int as = 0; as <= 14; as++) {
                due.is("46: KIND " + k + " as " + as, x.taken(0, as),
                    as >= 6 && as <= 9 ? -1 : as < 6 && isUnder[k - 1][as] == 1 ? k : -13);
            }
        }
    }

    /** Promise 47: "0, and no TRACE then: no such SHELF, act, nothing, a row". */
    private static void actOfNone() {
        KiteSummons x = new KiteSummons();
        x.kite(1, 0, 0, 3);
        x.shelf(0, 0, 0);
        x.sheet(0, 0, 3);
        x.shelf(1, 1, 0);
        int[][] none = {{-1, 0}, {4, 0}, {MIN, 0}, {MAX, 0}, {256, 0}, {0, -1}, {0, 4}, {0, MIN}, {0, MAX}, {0, 256},
            {1, 0}, {1, 3}, {2, 0}, {3, 3}, {4, 4}};
        for (int[] call : none) {
            due.is("47: it acts", x.act(0, 3, 1), (1 * 5 - 1 ^ 3) + 1 % (0 - 3) * 2);
            due.is("49: TRACE", x.many(6), 5);
            due.is("47: SHELF " + call[0] + ", ACT " + call[1], x.act(call[0], call[1], 7), 0);
            due.is("49: no TRACE then", x.many(6), 0);
            due.is("48: no TRACE then", x.trace(0), -3);
        }
    }

    /** "(ints that wrap)": flies, reads, calls by numbers that go over the edge, worked out in longs. */
    private static void actWraps() {
        int[] xs = {MIN, MIN + 1, MIN / 5 - 1, -429496730, 429496729, 429496730, MAX / 2, MAX - 1, MAX};
        for (int one : xs) {
            KiteSummons x = new KiteSummons();
            for (int kind = 1; kind <= 5; kind++) {
                x.kite(kind, 0, 0, 5);
                x.shelf(0, 0, kind - 1);
                long n = kind - 1;
                long five = (int) (one * 5L + n);
                long flies = kind == 1 ? (int) (five - 1) : kind == 3 ? five ^ 6 : five;
                due.is("47: KIND " + kind + " flies " + one, x.act(0, 0, one), flies);
                long on = (int) ((kind == 2 || kind == 3 ? one + n : one) * 5L % (1L << 32) + n);
                long onFlies = kind == 1 ? (int) (on - 1) : kind == 3 ? on ^ 6 : on;
                long reads = kind == 5 ? (int) ((onFlies ^ 5) * 5L) : onFlies ^ 5;
                due.is("47: KIND " + kind + " reads " + one, x.act(0, 1, one), reads);
                long left = one % (n - 5);
                long parts = kind == 4 ? -left : kind == 5 ? left * -1 + n * 5 + n : left;
                due.is("47: KIND " + kind + " parts " + one, x.act(0, 2, one), parts);
                long ownOn = (int) ((2 * n * 5 + n ^ 6) ^ 5);
                long calls = reads + parts * 2 - (kind == 3 ? ownOn : 0);
                due.is("47: KIND " + kind + " calls " + one, x.act(0, 3, one), (int) calls);
            }
        }
    }

    /** "what x leaves by (n - a), below 0 if x is": by numbers below 0, by 1 and -1, of the least int. */
    private static void actParts() {
        int[][] parts = {{7, 1, 3, 1}, {-7, 1, 3, -1}, {7, 3, 1, 1}, {-7, 3, 1, -1}, {7, 0, 5, 2}, {-7, 0, 5, -2},
            {7, 5, 0, 2}, {-7, 5, 0, -2}, {7, 0, 1, 0}, {MIN, 0, 1, 0}, {MIN, 1, 0, 0}, {MAX, 0, 1, 0}, {MIN, 0, 3, -2},
            {MIN, 3, 0, -2}, {MAX, 0, 5, 2}, {0, 0, 1, 0}, {2, 0, 3, 2}, {3, 0, 3, 0}, {-3, 3, 0, 0}};
        KiteSummons x = new KiteSummons();
        for (int k = 0; k < 6; k++) {
            x.kite(1, 0, 0, 0);
        }
        for (int[] one : parts) {
            x.change(one[1], 3, one[2]);
            x.shelf(2, 0, one[1]);
            due.is("47: what " + one[0] + " leaves by " + (one[1] - one[2]), x.act(2, 2, one[0]), one[3]);
        }
        x.remake(0, 4);
        x.change(0, 3, 5);
        x.shelf(2, 0, 0);
        due.is("47: a box parts the other way", x.act(2, 2, -7), 2);
    }

    /** "(-15 if these are the same; that is all that act() answers then)": parts, and calls; of each KIND, each n. */
    private static void actPartedBy0() {
        for (int kind = 1; kind <= 5; kind++) {
            KiteSummons x = new KiteSummons();
            for (int k = 0; k <= 5; k++) {
                x.kite(kind, 0, 0, k);
                x.shelf(0, 0, k);
                for (int v : new int[] {0, 1, -15, MIN, MAX}) {
                    due.is("47: parts by 0", x.act(0, 2, v), -15);
                    due.is("47: calls by 0", x.act(0, 3, v), -15);
                }
                due.is("47: flies is not parted", x.act(0, 0, 0), kind == 1 ? k - 1 : kind == 3 ? k ^ 6 : k);
                x.change(k, 3, (k + 1) % 6);
                due.is("47: parted by another number", x.act(0, 2, 0) == -15 ? 1 : 0, 0);
            }
        }
    }

    private static void bodies(KiteSummons x, int... bodies) {
        due.is("49: bodies", x.many(6), bodies.length);
        for (int i = 0; i < bodies.length; i++) {
            due.is("48: body " + i, x.trace(i), bodies[i]);
        }
        due.bad("48: NONE", i -> x.trace(i) == -3 ? -1 : 0, -1, bodies.length, 29, 30, 31);
    }

    /** Promise 48: "THE TRACE's i-th body. NONE": at first, and beside those that there are. */
    private static void traceBounds() {
        KiteSummons x = new KiteSummons();
        bodies(x);
        x.kite(2, 0, 0, 3);
        x.shelf(0, 0, 0);
        bodies(x);
        x.act(0, 0, 1);
        bodies(x, 10);
        x.act(0, 1, 1);
        bodies(x, 30, 11, 10);
        x.act(0, 0, 1);
        bodies(x, 10);
        x.remake(0, 1);
        x.act(0, 0, 1);
        bodies(x, 20, 10);
    }

    /** "the first 30 are kept": the longest TRACE that there is has fewer. */
    private static void traceOfTheLongest() {
        KiteSummons x = new KiteSummons();
        x.kite(3, 0, 0, 3);
        x.shelf(0, 0, 0);
        x.act(0, 3, 1);
        bodies(x, 51, 13, 30, 11, 50, 10, 12, 30, 11, 50, 10);
        x.act(0, 3, 1);
        bodies(x, 51, 13, 30, 11, 50, 10, 12, 30, 11, 50, 10);
        x.remake(0, 5);
        x.act(0, 3, 1);
        bodies(x, 13, 60, 11, 10, 61, 40, 12, 10);
    }

    /** What would have come behind the parting by 0 didn't run: a judge's reads, an old one's flies. */
    private static void traceOfPartedBy0() {
        KiteSummons x = new KiteSummons();
        x.kite(3, 0, 0, 0);
        x.shelf(0, 0, 0);
        x.act(0, 3, 1);
        bodies(x, 51, 13, 30, 11, 50, 10, 12);
        x.remake(0, 5);
        x.act(0, 2, 1);
        bodies(x, 61, 40, 12);
        x.act(0, 0, 1);
        bodies(x, 10);
    }

    /** Promise 49: "what = 0 .. 6"; "BAD: another what"; each at none and at most. */
    private static void manyBounds() {
        KiteSummons x = Due.still();
        due.bad("49: what", what -> x.many(what), -1, 7);
        for (int what = 0; what <= 6; what++) {
            due.is("49: none of " + what, x.many(what), 0);
        }
        for (int k = 0; k < 6; k++) {
            x.kite(3, 0, 0, 3);
            x.change(k, 5, 1);
            x.report(0, 0, 0, 7);
        }
        Due.told(x, "red cut;red cut;red cut;red cut;red cut;red cut;red cut;red cut;");
        for (int i = 0; i < 25; i++) {
            x.feed(0, 8);
        }
        x.prove(4);
        x.shelf(0, 0, 0);
        x.act(0, 3, 1);
        int[] most = {6, 8, 6, 6, 4, 200, 11};
        for (int what = 0; what <= 6; what++) {
            due.is("49: most of " + what, x.many(what), most[what]);
        }
        due.bad("49: what", what -> x.many(what), -1, 7);
    }
}
