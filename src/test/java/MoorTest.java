/** Promises 1 to 11: the moor, KITES. */
public final class MoorTest {
    private static final Due due = new Due();

    public static void main(String[] args) {
        aNewObject();
        kite();
        kiteOf();
        drifts();
        fees();
        change();
        remake();
        wind();
        farms();
        ends();
        anew();
        state();
        constants();
        due.end("MoorTest");
    }

    private static void constants() {
        due.is("BAD", KiteSummons.BAD, -1);
        due.is("FULL", KiteSummons.FULL, -2);
        due.is("NONE", KiteSummons.NONE, -3);
        due.is("STATE", KiteSummons.STATE, -4);
    }

    private static void aNewObject() {
        KiteSummons x = new KiteSummons();
        for (int what = 0; what <= 6; what++) {
            due.is("1: many " + what, x.many(what), 0);
            due.is("1: state " + what, x.state(what), what == 1 ? 12 : what == 6 ? 4 : 0);
        }
        for (int i = 0; i < 6; i++) {
            due.is("1: farmOf 0", x.farmOf(i, 0), 0);
            due.is("1: farmOf 1", x.farmOf(i, 1), 3);
        }
        for (int i = 0; i < 16; i++) {
            due.is("1: wind " + i, x.wind(i, 4), 4);
        }
        for (int i = 0; i < 4; i++) {
            due.is("1: item", x.item(i, 0, 0), -11);
            due.is("1: taken", x.taken(i, 0), -11);
        }
        due.is("1: again", x.again(), -3);
        due.is("1: kiteOf", x.kiteOf(0, 0), -1);
        due.is("1: row", x.row(0, 0), -9);
        due.is("1: trace", x.trace(0), -3);
        due.is("1: span", x.span(0), 320);
        due.is("1: seed", x.seed(5), 1);
    }

    private static void kite() {
        KiteSummons x = new KiteSummons();
        int[][] bad = {{0, 1, 1, 1}, {6, 1, 1, 1}, {1, -1, 1, 1}, {1, 64, 1, 1}, {1, 1, -1, 1}, {1, 1, 10, 1},
            {1, 1, 1, -1}, {1, 1, 1, 6}, {Integer.MIN_VALUE, 1, 1, 1}, {1, Integer.MAX_VALUE, 1, 1}};
        for (int[] b : bad) {
            due.is("2: kite of a bad number", x.kite(b[0], b[1], b[2], b[3]), -1);
        }
        due.is("2: none came", x.many(0), 0);
        due.is("2: kite 0", x.kite(1, 0, 0, 0), 0);
        due.is("2: kite 1", x.kite(5, 63, 9, 5), 1);
        int[] first = {1, 0, 0, 0, 1, 0};
        int[] second = {5, 63, 9, 5, 1, 0};
        for (int what = 0; what < 6; what++) {
            due.is("2: of kite 0, " + what, x.kiteOf(0, what), first[what]);
            due.is("2: of kite 1, " + what, x.kiteOf(1, what), second[what]);
        }
        for (int k = 2; k < 6; k++) {
            due.is("2: kite " + k, x.kite(k - 1, k, k, k), k);
        }
        due.is("2: FULL", x.kite(1, 1, 1, 1), -2);
        due.is("2: BAD ahead of FULL", x.kite(0, 1, 1, 1), -1);
        due.is("2: six", x.many(0), 6);
        due.is("2: all ALOFT", x.state(4), 63);
    }

    private static void kiteOf() {
        KiteSummons x = Due.county();
        due.is("3: KIND", x.kiteOf(3, 0), 5);
        due.is("3: AT", x.kiteOf(2, 1), 8);
        due.is("3: STRING", x.kiteOf(1, 2), 9);
        due.is("3: NAME", x.kiteOf(2, 3), 2);
        due.is("3: ALOFT", x.kiteOf(2, 4), 1);
        due.is("3: SERVED", x.kiteOf(2, 5), 0);
        due.is("3: FAR along x", x.kiteOf(0, 9), 2);
        due.is("3: FAR of both", x.kiteOf(2, 9), 13);
        x.change(2, 1, 63);
        x.farm(2, 0, 0);
        due.is("3: FAR, from the other side", x.kiteOf(2, 9), 14);
        due.is("3: WILL without RULES", x.kiteOf(0, 8), 0);
        Due.told(x, "red if string = 8 and far = 2 and gust = 0 and name = 0 and number = 0 hold; heavy cut;");
        due.is("3: WILL hold", x.kiteOf(0, 8), 1);
        due.is("3: WILL cut", x.kiteOf(1, 8), 2);
        due.is("3: WILL serve", x.kiteOf(2, 8), 0);
        x.change(0, 4, 0);
        due.is("3: WILL of one that lies", x.kiteOf(0, 8), 1);
        x.change(0, 2, 7);
        due.is("3: WILL as all is now", x.kiteOf(0, 8), 0);
        for (int what : new int[] {-1, 10, Integer.MAX_VALUE, Integer.MIN_VALUE}) {
            due.is("3: another what", x.kiteOf(0, what), -1);
        }
        for (int k : new int[] {-1, 4, 6, Integer.MAX_VALUE, Integer.MIN_VALUE}) {
            due.is("3: no such KITE", x.kiteOf(k, 0), -1);
        }
    }

    private static void drifts() {
        int[][] even = {{}, {0, 2, 4, 6}, {0, 0, 1, 2}, {1, 1, 2, 3}, {0, 1, 1, 1}, {0, 1, 1, 1}};
        int[][] odd = {{}, {0, 2, 4, 6}, {0, 0, 1, 2}, {0, 0, 1, 2}, {0, 1, 1, 1}, {0, 0, 0, 0}};
        KiteSummons x = new KiteSummons();
        for (int kind = 1; kind <= 5; kind++) {
            x.kite(kind, 0, 0, 0);
        }
        for (int force = 0; force < 4; force++) {
            x.wind(0, 4 * force + 3);
            x.wind(1, 4 * force + 2);
            for (int kind = 1; kind <= 5; kind++) {
                due.is("3: DRIFTS in GUST 0 of KIND " + kind, x.kiteOf(kind - 1, 6), even[kind][force]);
            }
            x.ends(16);
            x.gust();
            for (int kind = 1; kind <= 5; kind++) {
                due.is("3: DRIFTS in GUST 1 of KIND " + kind, x.kiteOf(kind - 1, 6), odd[kind][force]);
            }
            x.anew();
        }
        for (int i = 0; i < 16; i++) {
            x.gust();
        }
        for (int k = 0; k < 5; k++) {
            due.is("3: DRIFTS behind GUST 15", x.kiteOf(k, 6), 0);
        }
        due.is("11: WIND behind GUST 15", x.state(6), 0);
    }

    private static void fees() {
        for (int kind = 1; kind <= 5; kind++) {
            KiteSummons x = new KiteSummons();
            for (int k = 0; k < 6; k++) {
                x.kite(kind, 0, 0, 0);
                int[] fees = {0, 6, 4 + k, 2 * (4 + k), 3, 1};
                due.is("3: FEE of KIND " + kind, x.kiteOf(k, 7), fees[kind]);
            }
        }
    }

    private static void change() {
        KiteSummons x = Due.county();
        int[] most = {0, 63, 9, 5, 1, 1};
        int[] was = {0, 17, 8, 0, 1, 0};
        for (int what = 1; what <= 5; what++) {
            due.is("4: too much", x.change(0, what, most[what] + 1), -1);
            due.is("4: too little", x.change(0, what, -1), -1);
            due.is("4: any", x.change(0, what, Integer.MIN_VALUE), -1);
            due.is("4: stays", x.kiteOf(0, what), was[what]);
            due.is("4: what it was", x.change(0, what, most[what]), was[what]);
            due.is("4: becomes most", x.kiteOf(0, what), most[what]);
            due.is("4: what it was then", x.change(0, what, 0), most[what]);
            due.is("4: becomes 0", x.kiteOf(0, what), 0);
        }
        due.is("4: ALOFT", x.state(4), 14);
        due.is("4: others are as they were", x.kiteOf(1, 1), 33);
        due.is("4: SERVED", x.change(2, 5, 1), 0);
        due.is("4: SERVED now", x.state(5), 4);
        due.is("4: and counted", x.many(2), 1);
        due.is("4: ALOFT again", x.change(0, 4, 1), 0);
        due.is("4: ALOFT now", x.state(4), 15);
        for (int what : new int[] {-1, 0, 6, 7, 8, 9, Integer.MAX_VALUE}) {
            due.is("4: another what", x.change(0, what, 0), -1);
        }
        due.is("4: no such KITE", x.change(4, 1, 0), -1);
        due.is("4: no such KITE", x.change(-1, 1, 0), -1);
    }

    private static void remake() {
        KiteSummons x = Due.county();
        due.is("5: remake", x.remake(0, 3), 1);
        due.is("5: its KIND now", x.kiteOf(0, 0), 3);
        due.is("5: its FEE now", x.kiteOf(0, 7), 8);
        due.is("5: remake", x.remake(0, 5), 3);
        due.is("5: no KIND 0", x.remake(0, 0), -1);
        due.is("5: no KIND 6", x.remake(0, 6), -1);
        due.is("5: no such KITE", x.remake(4, 1), -1);
        due.is("5: no such KITE", x.remake(-1, 1), -1);
        due.is("5: it stays", x.kiteOf(0, 0), 5);
        due.is("5: AT stays", x.kiteOf(0, 1), 17);
    }

    private static void wind() {
        KiteSummons x = new KiteSummons();
        due.is("6: wind", x.wind(0, 15), 4);
        due.is("6: wind", x.wind(15, 0), 4);
        due.is("6: what it was", x.wind(0, 0), 15);
        due.is("6: what it was", x.wind(15, 3), 0);
        due.is("6: no such GUST", x.wind(-1, 0), -1);
        due.is("6: no such GUST", x.wind(16, 0), -1);
        due.is("6: no such WIND", x.wind(3, -1), -1);
        due.is("6: no such WIND", x.wind(3, 16), -1);
        due.is("6: it stays", x.wind(3, 9), 4);
    }

    private static void farms() {
        KiteSummons x = new KiteSummons();
        due.is("7: CELL", x.farm(5, 0, 63), 0);
        due.is("7: COMES", x.farm(5, 1, 14), 3);
        due.is("8: CELL", x.farmOf(5, 0), 63);
        due.is("8: COMES", x.farmOf(5, 1), 14);
        due.is("8: of another", x.farmOf(4, 0), 0);
        due.is("7: what it was", x.farm(5, 0, 0), 63);
        due.is("7: what it was", x.farm(5, 1, 0), 14);
        due.is("7: no such CELL", x.farm(5, 0, 64), -1);
        due.is("7: no such CELL", x.farm(5, 0, -1), -1);
        due.is("7: too far", x.farm(5, 1, 15), -1);
        due.is("7: below 0", x.farm(5, 1, -1), -1);
        due.is("7: another what", x.farm(5, 2, 0), -1);
        due.is("7: another what", x.farm(5, -1, 0), -1);
        due.is("7: no such FARM", x.farm(6, 0, 0), -1);
        due.is("7: no such FARM", x.farm(-1, 0, 0), -1);
        due.is("8: no such FARM", x.farmOf(6, 0), -1);
        due.is("8: no such FARM", x.farmOf(-1, 0), -1);
        due.is("8: another what", x.farmOf(0, 2), -1);
        due.is("8: another what", x.farmOf(0, -1), -1);
        due.is("8: they stay", x.farmOf(5, 0) + x.farmOf(5, 1), 0);
    }

    private static void ends() {
        KiteSummons x = new KiteSummons();
        due.is("9: ends", x.ends(1), 12);
        due.is("9: ends", x.ends(16), 1);
        due.is("9: BAD", x.ends(0), -1);
        due.is("9: BAD", x.ends(17), -1);
        x.gust();
        x.gust();
        due.is("9: below GUST", x.ends(1), -4);
        due.is("9: BAD ahead of STATE", x.ends(0), -1);
        due.is("9: it stays", x.state(1), 16);
        due.is("9: not OVER", x.state(3), 0);
        due.is("9: at GUST", x.ends(2), 16);
        due.is("9: OVER", x.state(3), 1);
    }

    private static void anew() {
        KiteSummons x = Due.county();
        x.seed(77);
        x.wind(1, 9);
        x.gust();
        x.gust();
        int at = x.kiteOf(1, 1);
        int string = x.kiteOf(1, 2);
        due.is("10: SERVED ahead", x.state(5), 9);
        due.is("10: anew", x.anew(), 2);
        due.is("10: GUST", x.state(0), 0);
        due.is("10: SCORE", x.state(2), 0);
        due.is("10: ALOFT", x.state(4), 15);
        due.is("10: SERVED", x.state(5), 0);
        due.is("10: AT stays", x.kiteOf(1, 1), at);
        due.is("10: STRING stays", x.kiteOf(1, 2), string);
        due.is("10: AT of one that lay stays", x.kiteOf(0, 1), 19);
        due.is("10: WINDS stay", x.wind(1, 9), 9);
        due.is("10: END stays", x.state(1), 12);
        due.is("10: z stays", x.seed(1), 77);
        due.is("10: anew again", x.anew(), 0);
    }

    private static void state() {
        KiteSummons x = Due.county();
        x.wind(1, 9);
        x.ends(2);
        due.is("11: GUST", x.state(0), 0);
        due.is("11: WIND", x.state(6), 4);
        x.gust();
        due.is("11: GUST", x.state(0), 1);
        due.is("11: END", x.state(1), 2);
        due.is("11: SCORE", x.state(2), 15);
        due.is("11: not OVER", x.state(3), 0);
        due.is("11: ALOFT", x.state(4), 14);
        due.is("11: SERVED", x.state(5), 1);
        due.is("11: WIND", x.state(6), 9);
        x.gust();
        due.is("11: OVER", x.state(3), 1);
        due.is("11: WIND of GUST from END on", x.state(6), 4);
        due.is("11: another what", x.state(7), -1);
        due.is("11: another what", x.state(-1), -1);
    }
}
