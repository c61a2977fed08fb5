/** Promises 40 to 49: SHEETS, SHELVES, ACTS of things. */
public final class HostTest {
    private static final Due due = new Due();

    public static void main(String[] args) {
        sheet();
        write();
        item();
        goAll();
        goAllRefused();
        wouldBe();
        shelf();
        takenKites();
        takenRows();
        acts();
        parted();
        trace();
        many();
        due.end("HostTest");
    }

    private static void sheet() {
        KiteSummons x = new KiteSummons();
        for (int sort = 0; sort <= 4; sort++) {
            due.is("40: a row", x.sheet(sort % 4, sort, 40), 1);
            due.is("40: all 0", x.item(sort % 4, sort, 39), 0);
            due.is("40: no more", x.item(sort % 4, sort, 40), -12);
            due.is("40: a row of none", x.sheet(sort % 4, sort, 0), 1);
            due.is("40: it has none", x.item(sort % 4, sort, 0), -12);
            due.is("40: too long", x.sheet(sort % 4, sort, 41), -1);
            due.is("40: below 0", x.sheet(sort % 4, sort, -1), -14);
            due.is("40: below 0", x.sheet(sort % 4, sort, Integer.MIN_VALUE), -14);
            due.is("40: it stays", x.item(sort % 4, sort, 0), -12);
        }
        due.is("40: no such SHEET", x.sheet(4, 0, 1), -1);
        due.is("40: no such SHEET", x.sheet(-1, 0, -1), -1);
        due.is("40: no such sort", x.sheet(0, 5, 1), -1);
        due.is("40: no such sort", x.sheet(0, -2, -1), -1);
        x.sheet(0, 2, 3);
        x.write(0, 1, 7);
        due.is("40: anew", x.sheet(0, 2, 3), 1);
        due.is("40: all 0", x.item(0, 2, 1), 0);
        due.is("40: missing", x.sheet(0, -1, 99), 1);
        due.is("40: nothing there", x.item(0, 2, 1), -11);
        due.is("40: missing, n below 0", x.sheet(0, -1, -5), 1);
    }

    private static void write() {
        KiteSummons x = new KiteSummons();
        int[] v = {0, 1, -1, 127, 128, 255, 256, 32767, 32768, 65536, -32769, Integer.MAX_VALUE, Integer.MIN_VALUE};
        for (int sort = 0; sort <= 4; sort++) {
            x.sheet(1, sort, 5);
            for (int one : v) {
                long narrow = sort == 0 ? (byte) one : sort == 1 ? (short) one : sort == 4 ? one == 0 ? 0 : 1 : one;
                due.is("41: write", x.write(1, 3, one), 1);
                due.is("42: sort " + sort + " of " + one, x.item(1, sort, 3), narrow);
            }
            due.is("42: others are 0", x.item(1, sort, 2) + x.item(1, sort, 4), 0);
        }
        due.is("41: no such SHEET", x.write(4, 0, 0), -1);
        due.is("41: no such SHEET", x.write(-1, 0, 0), -1);
        due.is("41: missing", x.write(0, 0, 0), -11);
        due.is("41: missing ahead of outside", x.write(0, -1, 0), -11);
        due.is("41: outside", x.write(1, 5, 0), -12);
        due.is("41: outside", x.write(1, -1, 0), -12);
        due.is("41: outside", x.write(1, Integer.MAX_VALUE, 0), -12);
    }

    private static void item() {
        KiteSummons x = new KiteSummons();
        due.is("42: no such SHEET", x.item(4, 0, 0), -1);
        due.is("42: no such SHEET", x.item(-1, 0, 0), -1);
        due.is("42: no such sort", x.item(0, 5, 0), -1);
        due.is("42: no such sort", x.item(0, -1, 0), -1);
        for (int sort = 0; sort <= 4; sort++) {
            due.is("42: missing", x.item(0, sort, 0), -11);
        }
        for (int sort = 0; sort <= 4; sort++) {
            x.sheet(0, sort, 2);
            for (int as = 0; as <= 4; as++) {
                due.is("42: of sort " + sort + " as " + as, x.item(0, as, 1), sort == as ? 0 : -13);
                due.is("42: outside", x.item(0, as, 2), sort == as ? -12 : -13);
                due.is("42: outside", x.item(0, as, -1), sort == as ? -12 : -13);
            }
        }
    }

    /** A sheet of bytes. */
    private static void bytes(KiteSummons x, int sheet, int... bytes) {
        x.sheet(sheet, 0, bytes.length);
        for (int i = 0; i < bytes.length; i++) {
            x.write(sheet, i, bytes[i]);
        }
    }

    private static KiteSummons threeStill() {
        KiteSummons x = new KiteSummons();
        for (int g = 0; g < 12; g++) {
            x.wind(g, 0);
        }
        x.kite(4, 0, 0, 0);
        x.kite(1, 0, 0, 0);
        x.kite(2, 1, 0, 0);
        return x;
    }

    private static void goAll() {
        KiteSummons x = threeStill();
        bytes(x, 2, 0, 2, 1, 3, 1);
        due.is("43: none", x.goAll(2, 0, 0), 0);
        due.is("43: none, anywhere", x.goAll(2, 99, 0), 0);
        due.is("43: from item 1 on", x.goAll(2, 1, 2), 15 + 12);
        due.is("43: two GUSTS", x.state(0), 2);
        due.is("43: those are SERVED", x.state(5), 3);
        due.is("43: ACT 0 and one that lies", x.goAll(2, 0, 2), 0);
        due.is("43: two more GUSTS", x.state(0), 4);
        x.anew();
        bytes(x, 0, 4, -1, 127, -128, 3, 5);
        due.is("43: what is no ACT is left out", x.goAll(0, 0, 6), 14);
        due.is("43: one GUST", x.state(0), 1);
        x.anew();
        x.ends(2);
        due.is("43: what comes when it is OVER is left out", x.goAll(2, 1, 3), 15 + 12);
        due.is("43: two GUSTS", x.state(0), 2);
        due.is("43: SCORE", x.state(2), 27);
        due.is("43: OVER", x.goAll(2, 1, 3), 0);
        due.is("43: the SHEET stays", x.item(2, 0, 1), 2);
        x.sheet(3, 0, 40);
        due.is("43: 20 items", x.goAll(3, 20, 20), 0);
        due.is("43: 21 items", x.goAll(3, 0, 21), -1);
    }

    private static void goAllRefused() {
        KiteSummons x = threeStill();
        bytes(x, 2, 0, 2, 1);
        due.is("43: no such SHEET", x.goAll(4, 0, 1), -1);
        due.is("43: no such SHEET", x.goAll(-1, 0, 1), -1);
        due.is("43: n below 0", x.goAll(2, 0, -1), -1);
        due.is("43: missing", x.goAll(0, 0, 1), -11);
        due.is("43: BAD ahead of it", x.goAll(0, 0, 21), -1);
        for (int sort = 1; sort <= 4; sort++) {
            x.sheet(1, sort, 3);
            due.is("43: no bytes", x.goAll(1, 0, 1), -13);
            due.is("43: no bytes, outside too", x.goAll(1, 9, 1), -13);
        }
        due.is("43: nothing was done", x.state(0), 0);
        due.is("43: outside", x.goAll(2, -1, 3), -12);
        due.is("43: outside", x.goAll(2, 3, 1), -12);
        due.is("43: outside", x.goAll(2, Integer.MAX_VALUE, 20), -12);
        due.is("43: outside", x.goAll(2, Integer.MIN_VALUE, 20), -12);
        due.is("43: nothing was done", x.state(0), 0);
        due.is("43: outside in the end", x.goAll(2, 1, 3), -12);
        due.is("43: what stood ahead was done", x.state(0), 2);
        due.is("43: and is WORTH so much", x.state(2), 27);
        x.ends(2);
        due.is("43: outside when it is OVER", x.goAll(2, 1, 3), -12);
    }

    private static void wouldBe() {
        KiteSummons x = threeStill();
        bytes(x, 2, 0, 2, 1, 3, 1, 4, -1);
        due.is("44: none", x.wouldBe(2, 0, 0), 0);
        due.is("44: two", x.wouldBe(2, 1, 2), 27);
        due.is("44: four", x.wouldBe(2, 1, 4), 27 + 14);
        due.is("44: it changes nothing", x.state(0) + x.state(2) + x.state(5), 0);
        due.is("44: no ACT", x.wouldBe(2, 1, 5), -4);
        due.is("44: no ACT", x.wouldBe(2, 6, 1), -4);
        due.is("44: outside", x.wouldBe(2, 7, 1), -12);
        due.is("44: outside", x.wouldBe(2, -1, 1), -12);
        due.is("44: no ACT ahead of outside", x.wouldBe(2, 4, 20), -4);
        due.is("44: outside", x.wouldBe(2, Integer.MAX_VALUE, 2), -12);
        x.ends(2);
        due.is("44: till it is OVER", x.wouldBe(2, 1, 2), 27);
        due.is("44: OVER ahead of one", x.wouldBe(2, 1, 3), -4);
        bytes(x, 3, 0, 0);
        due.is("44: outside ahead of OVER", x.wouldBe(3, 0, 3), -12);
        due.is("44: no such SHEET", x.wouldBe(4, 0, 1), -1);
        due.is("44: no such SHEET", x.wouldBe(-1, 0, 1), -1);
        due.is("44: n below 0", x.wouldBe(2, 0, -1), -1);
        due.is("44: 21 items", x.wouldBe(2, 0, 21), -1);
        due.is("44: missing", x.wouldBe(0, 0, 1), -11);
        x.sheet(1, 4, 9);
        due.is("44: no bytes", x.wouldBe(1, 0, 1), -13);
        due.is("44: no bytes, outside too", x.wouldBe(1, 9, 1), -13);
        x.goAll(2, 0, 2);
        due.is("44: OVER now", x.wouldBe(2, 0, 1), -4);
        due.is("44: OVER, but none", x.wouldBe(2, 0, 0), 0);
    }

    private static KiteSummons five() {
        KiteSummons x = new KiteSummons();
        for (int kind = 1; kind <= 5; kind++) {
            x.kite(kind, 0, 0, 5);
        }
        return x;
    }

    private static void shelf() {
        KiteSummons x = five();
        for (int shelf = 0; shelf < 4; shelf++) {
            due.is("46: nothing at first", x.taken(shelf, 0), -11);
            due.is("45: a KITE", x.shelf(shelf, 0, shelf), 1);
            due.is("46: that KITE", x.taken(shelf, 0), shelf);
        }
        due.is("45: no such KITE", x.shelf(0, 0, 5), -1);
        due.is("45: no such KITE", x.shelf(0, 0, -1), -1);
        due.is("45: no such SHEET", x.shelf(0, 1, 4), -1);
        due.is("45: no such SHEET", x.shelf(0, 1, -1), -1);
        due.is("45: no such what", x.shelf(0, 3, 0), -1);
        due.is("45: no such what", x.shelf(0, -1, 0), -1);
        due.is("45: no such SHELF", x.shelf(4, 0, 0), -1);
        due.is("45: no such SHELF", x.shelf(-1, 2, 0), -1);
        due.is("45: it stays", x.taken(0, 0), 0);
        due.is("45: nothing", x.shelf(0, 2, 0), 1);
        due.is("46: nothing", x.taken(0, 0), -11);
        x.shelf(0, 0, 1);
        due.is("45: a missing SHEET", x.shelf(0, 1, 3), 1);
        due.is("46: nothing", x.taken(0, 0), -11);
        x.sheet(3, 0, 2);
        due.is("46: still nothing", x.taken(0, 10), -11);
    }

    private static void takenKites() {
        KiteSummons x = five();
        int[][] as = {{}, {0, 1}, {0, 2}, {0, 2, 3}, {0, 4}, {0, 4, 5}};
        for (int kind = 1; kind <= 5; kind++) {
            x.shelf(0, 0, kind - 1);
            for (int one = 0; one <= 5; one++) {
                boolean isOne = false;
                for (int a : as[kind]) {
                    isOne |= a == one;
                }
                due.is("46: KIND " + kind + " as " + one, x.taken(0, one), isOne ? kind - 1 : -13);
            }
            for (int sort = 10; sort <= 14; sort++) {
                due.is("46: a KITE is no row", x.taken(0, sort), -13);
            }
        }
        x.shelf(1, 0, 2);
        x.remake(2, 5);
        due.is("46: by the KIND that it is now", x.taken(1, 3), -13);
        due.is("46: by the KIND that it is now", x.taken(1, 5), 2);
        for (int as1 : new int[] {-1, 6, 9, 15, Integer.MIN_VALUE, Integer.MAX_VALUE}) {
            due.is("46: no such as", x.taken(1, as1), -1);
            due.is("46: no such as, of nothing", x.taken(3, as1), -1);
        }
        due.is("46: no such SHELF", x.taken(4, 0), -1);
        due.is("46: no such SHELF", x.taken(-1, 10), -1);
        KiteSummons gone = new KiteSummons();
        gone.keep();
        gone.kite(1, 0, 0, 5);
        gone.shelf(0, 0, 0);
        gone.again();
        due.is("46: a KITE that there is no more", gone.taken(0, 1), -11);
        due.is("47: nor does it act", gone.act(0, 0, 5), 0);
        gone.kite(3, 0, 0, 5);
        due.is("46: another by that number", gone.taken(0, 2), 0);
    }

    private static void takenRows() {
        KiteSummons x = five();
        for (int sort = 0; sort <= 4; sort++) {
            x.sheet(1, sort, 7 + sort);
            due.is("45: a row", x.shelf(2, 1, 1), 1);
            for (int as = 10; as <= 14; as++) {
                due.is("46: sort " + sort + " as " + as, x.taken(2, as), as == 10 + sort ? 7 + sort : -13);
            }
            for (int as = 0; as <= 5; as++) {
                due.is("46: a row is no KITE", x.taken(2, as), -13);
            }
        }
        x.sheet(1, 0, 0);
        x.shelf(2, 1, 1);
        due.is("46: a row of none", x.taken(2, 10), 0);
        due.is("46: nothing as a row", x.taken(3, 10), -11);
    }

    private static int flies(int kind, int n, int x) {
        int kite = x * 5 + n;
        return kind == 1 ? kite - 1 : kind == 3 ? kite ^ 6 : kite;
    }

    private static int reads(int kind, int n, int a, int x) {
        int y = kind == 2 || kind == 3 ? x + n : x;
        int kite = flies(kind, n, y) ^ a;
        return kind == 5 ? kite * a : kite;
    }

    private static int parts(int kind, int n, int a, int x) {
        int kite = x % (n - a);
        return kind == 4 ? -kite : kind == 5 ? flies(5, n, n) - kite : kite;
    }

    private static int calls(int kind, int n, int a, int x) {
        int kite = reads(kind, n, a, x) + parts(kind, n, a, x) * 2;
        return kind == 3 ? kite - reads(3, n, a, n) : kite;
    }

    private static void acts() {
        int[] numbers = {0, 1, -1, 7, -7, 10, 1000, 123456789, -987654321, Integer.MAX_VALUE, Integer.MIN_VALUE};
        for (int kind = 1; kind <= 5; kind++) {
            for (int a = 0; a < 6; a++) {
                KiteSummons x = new KiteSummons();
                x.kite(1, 0, 0, 0);
                x.kite(2, 0, 0, 0);
                int n = a == 1 ? 2 : 1;
                x.kite(3, 0, 0, 0);
                x.shelf(3, 0, n);
                x.remake(n, kind);
                x.change(n, 3, a);
                for (int one : numbers) {
                    String of = "47: KIND " + kind + " with " + one;
                    due.is(of + " flies", x.act(3, 0, one), flies(kind, n, one));
                    due.is(of + " reads", x.act(3, 1, one), reads(kind, n, a, one));
                    due.is(of + " parts", x.act(3, 2, one), parts(kind, n, a, one));
                    due.is(of + " calls", x.act(3, 3, one), calls(kind, n, a, one));
                }
            }
        }
    }

    private static void bodies(KiteSummons x, String what, int... bodies) {
        due.is("49: " + what + ", how many", x.many(6), bodies.length);
        for (int i = 0; i < bodies.length; i++) {
            due.is("48: " + what + ", body " + i, x.trace(i), bodies[i]);
        }
        due.is("48: " + what + ", no more", x.trace(bodies.length), -3);
        due.is("48: " + what + ", none ahead", x.trace(-1), -3);
    }

    private static void parted() {
        KiteSummons x = new KiteSummons();
        int[][] parts = {{}, {12}, {12}, {12}, {40, 12}, {61, 40, 12}};
        int[][] calls = {{}, {13, 11, 20, 10, 12}, {13, 30, 11, 10, 12}, {51, 13, 30, 11, 50, 10, 12},
            {13, 11, 10, 40, 12}, {13, 60, 11, 10, 61, 40, 12}};
        x.kite(1, 0, 0, 0);
        x.shelf(0, 0, 0);
        for (int kind = 1; kind <= 5; kind++) {
            x.remake(0, kind);
            due.is("47: flies are not parted", x.act(0, 0, 3), flies(kind, 0, 3));
            due.is("47: parted by 0", x.act(0, 2, 9), -15);
            bodies(x, "parted by 0", parts[kind]);
            due.is("47: parted by 0 in calls", x.act(0, 3, 9), -15);
            bodies(x, "parted by 0 in calls", calls[kind]);
            due.is("47: reads afterwards", x.act(0, 1, 9), reads(kind, 0, 0, 9));
        }
    }

    private static void trace() {
        KiteSummons x = new KiteSummons();
        bodies(x, "none at first");
        x.kite(1, 0, 0, 3);
        x.shelf(0, 0, 0);
        int[][] flies = {{}, {20, 10}, {10}, {50, 10}, {10}, {10}};
        int[][] reads = {{}, {11, 20, 10}, {30, 11, 10}, {30, 11, 50, 10}, {11, 10}, {60, 11, 10}};
        int[][] parts = {{}, {12}, {12}, {12}, {40, 12}, {61, 40, 12, 10}};
        int[][] calls = {{}, {13, 11, 20, 10, 12}, {13, 30, 11, 10, 12},
            {51, 13, 30, 11, 50, 10, 12, 30, 11, 50, 10}, {13, 11, 10, 40, 12}, {13, 60, 11, 10, 61, 40, 12, 10}};
        int[][][] all = {flies, reads, parts, calls};
        for (int kind = 1; kind <= 5; kind++) {
            x.remake(0, kind);
            for (int act = 0; act < 4; act++) {
                x.act(0, act, 5);
                bodies(x, "KIND " + kind + ", ACT " + act, all[act][kind]);
            }
        }
        due.is("47: no such ACT", x.act(0, 4, 5), 0);
        bodies(x, "no such ACT");
        x.act(0, 0, 5);
        due.is("47: no such ACT", x.act(0, -1, 5), 0);
        bodies(x, "no such ACT");
        x.act(0, 0, 5);
        due.is("47: no such SHELF", x.act(4, 0, 5), 0);
        bodies(x, "no such SHELF");
        x.act(0, 0, 5);
        due.is("47: no such SHELF", x.act(-1, 0, 5), 0);
        bodies(x, "no such SHELF");
        x.act(0, 0, 5);
        due.is("47: nothing", x.act(1, 0, 5), 0);
        bodies(x, "nothing");
        x.act(0, 0, 5);
        x.sheet(0, 0, 3);
        x.shelf(1, 1, 0);
        due.is("47: a row", x.act(1, 0, 5), 0);
        bodies(x, "a row");
    }

    private static void many() {
        KiteSummons x = Due.county();
        due.is("49: KITES", x.many(0), 4);
        Due.told(x, "kite serve; box hold; red serve;");
        due.is("49: RULES", x.many(1), 3);
        x.change(0, 5, 1);
        x.change(3, 5, 1);
        due.is("49: SERVED", x.many(2), 2);
        x.report(0, 0, 0, 0);
        due.is("49: REPORTS", x.many(3), 1);
        x.prove(2);
        due.is("49: ROWS", x.many(4), 2);
        x.feed(0, 5);
        due.is("49: bytes", x.many(5), 5);
        due.is("49: bodies", x.many(6), 0);
        due.is("49: another what", x.many(7), -1);
        due.is("49: another what", x.many(-1), -1);
        due.is("49: another what", x.many(Integer.MIN_VALUE), -1);
    }
}
