/** The sentences of promises 1, 50 and 51 that name a boundary; each is quoted at its test. */
public final class EdgeKeptTest {
    private static final Due due = new Due();

    public static void main(String[] args) {
        aNewObject();
        nothingIsKept();
        keepOfNothing();
        keepOfAll();
        keptReports();
        keptWhenOver();
        keptLatest();
        keptStays();
        tapeStays();
        rowsStay();
        sheetsAndShelvesStay();
        traceStays();
        objectsApart();
        due.end("EdgeKeptTest");
    }

    /** Promise 1: "No KITES, RULES, REPORTS; nothing is kept." */
    private static void aNewObject() {
        for (int time = 0; time < 2; time++) {
            KiteSummons x = new KiteSummons();
            for (int what = 0; what <= 6; what++) {
                due.is("1: none of " + what, x.many(what), 0);
            }
            due.is("1: nothing is kept", x.again(), -3);
            due.is("1: KITE 0 comes first", x.kite(1, 0, 0, 0), 0);
            due.is("1: no RULE tells", x.kiteOf(0, 8), 0);
            due.is("1: REPORT 0 comes first", x.report(0, 0, 0, 0), 0);
            due.is("1: z", x.seed(9), 1);
            x.keep();
        }
    }

    /** Promise 51: "NONE: nothing is kept": whatever else was done. */
    private static void nothingIsKept() {
        KiteSummons x = Due.county();
        due.is("51: nothing is kept", x.again(), -3);
        x.gust();
        x.anew();
        x.prove(2);
        due.is("51: nothing is kept", x.again(), -3);
        due.is("51: KITES stay", x.many(0), 4);
        due.is("51: ROWS stay", x.many(4), 2);
    }

    /** Promise 50: "1", of a new object, too: what is kept has no KITES, RULES, REPORTS, and GUST 0. */
    private static void keepOfNothing() {
        KiteSummons x = new KiteSummons();
        due.is("50: keep", x.keep(), 1);
        for (int k = 0; k < 6; k++) {
            x.kite(1, 0, 0, 0);
            x.report(0, 0, k, k);
        }
        Due.told(x, "kite cut;");
        x.ends(16);
        x.wind(15, 0);
        x.farm(5, 1, 14);
        x.farm(5, 0, 63);
        x.seed(0);
        x.gust();
        due.is("51: no KITES", x.again(), 0);
        int[] state = {0, 12, 0, 0, 0, 0, 4};
        for (int what = 0; what <= 6; what++) {
            due.is("51: state " + what, x.state(what), state[what]);
            due.is("51: none of " + what, x.many(what), 0);
        }
        due.is("51: WIND", x.wind(15, 4), 4);
        due.is("51: COMES", x.farmOf(5, 1), 3);
        due.is("51: CELL", x.farmOf(5, 0), 0);
        due.is("51: z", x.seed(1), 1);
        due.is("51: all FIT", x.span(0), 320);
        due.is("51: KITE 0 is the next", x.kite(2, 9, 9, 5), 0);
        due.is("51: it is a new one", x.state(4) * 10 + x.state(5), 10);
        due.is("51: no RULE tells", x.kiteOf(0, 8), 0);
    }

    /** "All .. is kept": 6 KITES, 8 RULES, 6 REPORTS. */
    private static void keepOfAll() {
        KiteSummons x = new KiteSummons();
        for (int k = 0; k < 6; k++) {
            x.kite(5 - k % 5, 63 - k, 9 - k, k);
            x.farm(k, 0, 10 + k);
            x.farm(k, 1, 14 - k);
            x.report(k, k % 2, 7 - k, 7);
        }
        for (int gust = 0; gust < 16; gust++) {
            x.wind(gust, 15 - gust);
        }
        x.change(5, 4, 0);
        x.change(0, 5, 1);
        Due.told(x, "red cut;red cut;red cut;red cut;red cut;red cut;red cut;kite if number = 5 hold;");
        x.seed(Integer.MIN_VALUE);
        x.ends(16);
        x.keep();
        x.forget();
        x.rules();
        x.anew();
        x.ends(1);
        x.seed(0);
        for (int k = 0; k < 6; k++) {
            x.change(k, 1, 0);
            x.change(k, 2, 0);
            x.change(k, 3, 0);
            x.remake(k, 1);
            x.farm(k, 0, 0);
            x.farm(k, 1, 0);
        }
        for (int gust = 0; gust < 16; gust++) {
            x.wind(gust, 0);
        }
        due.is("51: how many KITES", x.again(), 6);
        for (int k = 0; k < 6; k++) {
            int[] of = {5 - k % 5, 63 - k, 9 - k, k, k == 5 ? 0 : 1, k == 0 ? 1 : 0};
            for (int what = 0; what < 6; what++) {
                due.is("51: KITE " + k + ", " + what, x.kiteOf(k, what), of[what]);
            }
            due.is("51: CELL of FARM " + k, x.farmOf(k, 0), 10 + k);
            due.is("51: FARM " + k + " COMES", x.farmOf(k, 1), 14 - k);
        }
        for (int gust = 0; gust < 16; gust++) {
            due.is("51: WIND of GUST " + gust, x.wind(gust, 15 - gust), 15 - gust);
        }
        due.is("51: RULES", x.many(1), 8);
        due.is("51: the eighth tells", x.kiteOf(5, 8), 1);
        due.is("51: the first tells", x.kiteOf(4, 8), 2);
        due.is("51: REPORTS", x.many(3), 6);
        due.is("51: END", x.state(1), 16);
        due.is("51: z", x.seed(1), Integer.MIN_VALUE);
        due.is("29: FULL", x.report(0, 0, 0, 0), -2);
        due.is("2: FULL", x.kite(1, 0, 0, 0), -2);
    }

    /** Each part of each of 6 REPORTS is kept, though as many others come between. */
    private static void keptReports() {
        KiteSummons x = Due.still();
        int[][] reports = {{0, 0, 3, 4}, {2, 1, 5, 5}, {4, 0, 4, 6}, {5, 1, 1, 7}, {6, 0, 6, 6}, {0, 0, 0, 3}};
        for (int[] report : reports) {
            x.report(report[0], report[1], report[2], report[3]);
        }
        int cell = 3 + 8 * 5;
        due.is("31: a judge alone, which goes 3 CELLS in 6 GUSTS", x.span(0), 1);
        due.is("31: a judge", x.span(1), 3);
        due.is("31: its CELL", x.span(2), cell);
        x.keep();
        x.forget();
        for (int i = 0; i < 6; i++) {
            x.report(15, 1 - i % 2, 7, 7);
        }
        due.is("31: others: four that stay at CELL 63, a judge from 8 CELLS", x.span(0), 4 + 8);
        x.again();
        due.is("51: six", x.many(3), 6);
        due.is("51: they tell the same", x.span(0), 1);
        due.is("51: they tell the same", x.span(1), 3);
        due.is("51: they tell the same", x.span(2), cell);
        due.is("51: no LIAR", x.liar(), -3);
    }

    /** GUST 16, OVER, is kept as well; and END goes with it. */
    private static void keptWhenOver() {
        KiteSummons x = Due.still();
        x.kite(1, 0, 0, 0);
        x.ends(16);
        for (int gust = 0; gust < 16; gust++) {
            x.gust();
        }
        x.keep();
        x.anew();
        x.ends(1);
        due.is("51: again", x.again(), 1);
        due.is("51: GUST", x.state(0), 16);
        due.is("51: END", x.state(1), 16);
        due.is("51: SCORE", x.state(2), 15);
        due.is("51: OVER", x.gust(), -4);
        due.is("51: below GUST", x.ends(15), -4);
    }

    /** Promise 51: "what was kept latest". */
    private static void keptLatest() {
        KiteSummons x = new KiteSummons();
        for (int k = 0; k < 6; k++) {
            x.kite(1, k, k, k);
            x.keep();
        }
        x.anew();
        due.is("51: the latest of six", x.again(), 6);
        KiteSummons y = new KiteSummons();
        y.kite(1, 0, 0, 0);
        y.keep();
        y.change(0, 1, 9);
        y.keep();
        y.change(0, 1, 18);
        y.again();
        due.is("51: the latest", y.kiteOf(0, 1), 9);
        y.keep();
        y.again();
        due.is("51: the same", y.kiteOf(0, 1), 9);
    }

    /** Promise 51: "(which stays)": again and again, whatever is done between. */
    private static void keptStays() {
        KiteSummons x = Due.county();
        Due.told(x, "kite if far = 2 hold;");
        x.report(0, 0, 1, 1);
        x.keep();
        for (int time = 0; time < 5; time++) {
            x.kite(1, 63, 0, 0);
            x.change(0, 1, 60 + time % 3);
            x.wind(time, 0);
            x.farm(0, 0, time);
            x.report(0, 0, 2, 2);
            Due.told(x, "kite cut; box hold;");
            x.gust();
            x.lot();
            due.is("51: how many KITES", x.again(), 4);
            due.is("51: AT", x.kiteOf(0, 1), 17);
            due.is("51: GUST", x.state(0), 0);
            due.is("51: WIND", x.wind(time, 4), 4);
            due.is("51: CELL", x.farmOf(0, 0), 19);
            due.is("51: WILL", x.kiteOf(0, 8), 1);
            due.is("51: REPORTS", x.many(3), 1);
            due.is("51: they FIT", x.span(0), 40);
            due.is("51: z", x.seed(1), 1);
        }
    }

    /** "All but THE TAPE": it is as it was, and its bytes with it. */
    private static void tapeStays() {
        KiteSummons x = new KiteSummons();
        Due.feed(x, "kite c");
        x.keep();
        Due.feed(x, "ut;");
        x.again();
        due.is("51: THE TAPE", x.many(5), 9);
        due.is("51: as it was fed", x.rules(), 1);
        x.again();
        due.is("51: nothing of what it had then", x.many(5), 0);
        due.is("51: RULES as they were kept", x.many(1), 0);
    }

    /** "All but .. ROWS". */
    private static void rowsStay() {
        KiteSummons x = Due.county();
        x.prove(1);
        x.keep();
        x.prove(3);
        x.alterRow(2, 0, 55);
        x.again();
        due.is("51: ROWS", x.many(4), 3);
        due.is("51: a ROW", x.row(2, 0), 55);
        x.prove(0);
        x.again();
        due.is("51: no ROWS", x.many(4), 0);
    }

    /** "All but .. SHEETS, SHELVES": those that came since stay, and those that went since don't come back. */
    private static void sheetsAndShelvesStay() {
        KiteSummons x = Due.county();
        x.sheet(0, 2, 1);
        x.write(0, 0, 5);
        x.shelf(0, 1, 0);
        x.shelf(1, 0, 3);
        x.keep();
        x.sheet(0, -1, 0);
        x.sheet(1, 0, 40);
        x.write(1, 39, 7);
        x.shelf(0, 2, 0);
        x.shelf(2, 1, 1);
        x.shelf(1, 0, 2);
        x.again();
        due.is("51: SHEET 0 is missing", x.item(0, 2, 0), -11);
        due.is("51: SHEET 1 is there", x.item(1, 0, 39), 7);
        due.is("51: SHELF 0 holds nothing", x.taken(0, 12), -11);
        due.is("51: SHELF 1 holds KITE 2", x.taken(1, 0), 2);
        due.is("51: SHELF 2 holds a row", x.taken(2, 10), 40);
    }

    /** "All but .. THE TRACE". */
    private static void traceStays() {
        KiteSummons x = Due.county();
        x.shelf(0, 0, 1);
        x.act(0, 0, 1);
        x.keep();
        x.act(0, 1, 1);
        x.again();
        due.is("51: THE TRACE", x.many(6), 3);
        due.is("51: its first", x.trace(0), 30);
        x.act(0, 9, 1);
        x.again();
        due.is("51: no TRACE", x.many(6), 0);
    }

    /** Two objects know nothing of one another. */
    private static void objectsApart() {
        KiteSummons x = Due.county();
        Due.told(x, "kite hold;");
        x.keep();
        KiteSummons y = new KiteSummons();
        due.is("1: nothing is kept", y.again(), -3);
        due.is("1: no KITES", y.many(0), 0);
        due.is("1: no RULES", y.many(1), 0);
        y.kite(4, 0, 0, 0);
        due.is("1: as much as by itself", y.gust(), 3 + 9);
        due.is("1: the other one stays", x.state(0), 0);
        due.is("1: the other one stays", x.many(0), 4);
    }
}
