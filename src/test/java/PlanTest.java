/** Promises 22 to 28 and 36 to 39: PLANS, a GAME, ROWS. */
public final class PlanTest {
    private static final Due due = new Due();

    public static void main(String[] args) {
        best();
        ofSome();
        end();
        writ();
        game();
        spoiled();
        rows();
        reader();
        due.end("PlanTest");
    }

    /** One red KITE that goes by its FARM: at FAR 2, 0, 2, 3. */
    private static KiteSummons oneRed() {
        KiteSummons x = new KiteSummons();
        x.farm(0, 0, 4);
        x.farm(0, 1, 14);
        x.kite(1, 0, 9, 0);
        return x;
    }

    private static void best() {
        KiteSummons x = oneRed();
        int[] best = {0, 13, 15, 15, 15};
        int[] ways = {1, 1, 1, 2, 4};
        for (int n = 0; n <= 4; n++) {
            due.is("22: best " + n, x.best(n), best[n]);
            due.is("24: ways " + n, x.ways(n), ways[n]);
        }
        due.is("23: ACT 0 of 1", x.ith(1, 0), 1);
        int[] first = {0, 1, 0, 0};
        for (int n = 2; n <= 4; n++) {
            for (int i = 0; i < 4; i++) {
                due.is("23: ACT " + i + " of " + n, x.ith(n, i), i < n ? first[i] : -3);
            }
        }
        due.is("23: none of 0", x.ith(0, 0), -3);
        for (int n : new int[] {-1, 5, Integer.MIN_VALUE, Integer.MAX_VALUE}) {
            due.is("22: BAD", x.best(n), -1);
            due.is("23: BAD", x.ith(n, 0), -1);
            due.is("24: BAD", x.ways(n), -1);
            due.is("25: BAD", x.writ(n, 0), -1);
            due.is("26: BAD", x.bars(n, 0), -1);
            due.is("36: BAD", x.prove(n), -1);
        }
        due.is("23: BAD i", x.ith(1, 4), -1);
        due.is("23: BAD i", x.ith(1, -1), -1);
        due.is("22: it changes nothing", x.state(0) + x.state(2) + x.kiteOf(0, 1), 0);
    }

    /** Two that are WORTH as much: the lesser first; who lies can be told, and does nothing. */
    private static void ofSome() {
        KiteSummons x = new KiteSummons();
        x.kite(4, 0, 0, 0);
        x.kite(4, 0, 0, 0);
        due.is("22: both", x.best(2), 24);
        due.is("24: either first", x.ways(2), 2);
        due.is("23: the lesser", x.ith(2, 0), 1);
        due.is("23: then the other", x.ith(2, 1), 2);
        due.is("24: one", x.ways(1), 2);
        due.is("24: with one ACT that tells none, or who lies", x.ways(3), 27 - 8 - 8 + 1);
        due.is("23: none first", x.ith(3, 0), 0);
        due.is("23: then the lesser", x.ith(3, 1), 1);
        x.change(0, 4, 0);
        due.is("22: one lies", x.best(1), 12);
        due.is("24: one lies", x.ways(2), 9 - 4);
        Due.told(x, "box cut;");
        due.is("22: cut", x.best(3), 1);
        Due.told(x, "box hold;");
        due.is("22: hold", x.best(3), 0);
        due.is("24: all PLANS", x.ways(4), 81);
    }

    private static void end() {
        KiteSummons x = oneRed();
        x.ends(2);
        due.is("22: two GUSTS yet", x.best(4), 15);
        due.is("24: two GUSTS yet", x.ways(4), 1);
        due.is("23: two ACTS", x.ith(4, 1), 1);
        due.is("23: no more", x.ith(4, 2), -3);
        due.is("36: two ROWS", x.prove(4), 2);
        x.gust();
        x.gust();
        due.is("22: OVER", x.best(4), 0);
        due.is("24: OVER", x.ways(4), 1);
        due.is("23: OVER", x.ith(4, 0), -3);
        due.is("25: OVER, SERVED", x.writ(4, 1), 0);
        due.is("26: OVER, SERVED", x.bars(4, 1), -3);
        due.is("36: OVER", x.prove(4), 0);
        due.is("39: no ROWS", x.judge(), 0);
        due.is("27: OVER", x.game(4), 0);
        due.is("28: OVER", x.play(4), -3);
        due.is("28: BAD ahead of OVER", x.play(5), -1);
    }

    private static void writ() {
        KiteSummons x = new KiteSummons();
        x.farm(1, 0, 63);
        x.kite(4, 0, 0, 0);
        x.kite(4, 0, 0, 1);
        x.kite(4, 1, 0, 0);
        x.kite(4, 0, 0, 1);
        due.is("25: none wanted", x.writ(0, 0), 0);
        due.is("25: none wanted of more", x.writ(3, 0), 0);
        due.is("25: one", x.writ(1, 1), 1);
        due.is("25: one of more", x.writ(4, 1), 1);
        due.is("25: both", x.writ(2, 5), 2);
        due.is("25: both by one", x.writ(1, 5), -3);
        due.is("26: each by one", x.bars(1, 5), -3);
        due.is("25: out of reach", x.writ(4, 2), -3);
        due.is("26: out of reach", x.bars(4, 2), 1);
        due.is("26: the least", x.bars(2, 15), 1);
        due.is("26: of those that are told", x.bars(2, 9), 3);
        due.is("26: no GUSTS", x.bars(0, 4), 2);
        due.is("25: no GUSTS", x.writ(0, 4), -3);
        due.is("26: none wanted", x.bars(0, 0), -3);
        due.is("25: no such KITE", x.writ(1, 16), -1);
        due.is("26: no such KITE", x.bars(1, 16), -1);
        due.is("25: no such set", x.writ(1, -1), -1);
        due.is("26: no such set", x.bars(1, -1), -1);
        x.change(1, 5, 1);
        due.is("25: SERVED now", x.writ(0, 2), 0);
        due.is("26: SERVED now", x.bars(0, 2), -3);
        due.is("25: and one more", x.writ(1, 3), 1);
        Due.told(x, "box if gust < 1 hold;");
        due.is("25: held at first", x.writ(1, 1), -3);
        due.is("26: held at first", x.bars(1, 1), 0);
        due.is("25: then not", x.writ(2, 1), 1);
    }

    private static void game() {
        KiteSummons x = oneRed();
        due.is("27: 1", x.game(1), 13);
        due.is("28: 1", x.play(1), 1);
        due.is("27: 2", x.game(2), 13);
        due.is("28: 2", x.play(2), 1);
        due.is("27: 3", x.game(3), 13);
        due.is("28: 3, as well a turn later", x.play(3), 0);
        due.is("27: 4", x.game(4), 13);
        for (int n : new int[] {0, 5, -1, Integer.MIN_VALUE}) {
            due.is("27: BAD", x.game(n), -1);
            due.is("28: BAD", x.play(n), -1);
        }
        due.is("27: it changes nothing", x.state(0) + x.state(2) + x.kiteOf(0, 1), 0);
        x.ends(1);
        due.is("27: till it is OVER", x.game(4), 13);
        due.is("28: till it is OVER", x.play(4), 1);
        KiteSummons y = oneRed();
        y.change(0, 1, 62);
        due.is("27: who stays at the edge", y.game(1), 6 + 0);
        y.farm(0, 1, 2);
        due.is("27: of no use", y.game(2), 0);
        due.is("28: the least", y.play(2), 0);
    }

    /** The other one tells a KITE ahead of its FARM, so that it lies for nothing. */
    private static void spoiled() {
        KiteSummons x = new KiteSummons();
        x.farm(0, 0, 6);
        x.farm(0, 1, 0);
        x.kite(1, 0, 9, 0);
        due.is("22: the court alone", x.best(3), 15);
        due.is("27: the other one tells it ahead", x.game(3), 0);
        due.is("28: so all is one", x.play(3), 0);
        x.gust();
        x.gust();
        due.is("27: now it can", x.game(1), 15);
        x.kite(1, 6, 0, 0);
        due.is("27: one of two", x.game(2), 15);
        due.is("28: the lesser", x.play(2), 1);
        due.is("27: the other one leaves it at that", x.game(4), 30);
        due.is("28: first the one that would go on", x.play(4), 1);
    }

    private static void rows() {
        KiteSummons x = oneRed();
        due.is("37: none", x.row(0, 0), -9);
        due.is("38: none", x.alterRow(0, 0, 1), -9);
        due.is("36: three", x.prove(3), 3);
        due.is("49: three", x.many(4), 3);
        int[][] rows = {{0, 0, 0}, {1, 15, 1}, {0, 0, 1}};
        for (int k = 0; k < 3; k++) {
            for (int what = 0; what < 3; what++) {
                due.is("37: ROW " + k + ", " + what, x.row(k, what), rows[k][what]);
            }
        }
        int[][] bad = {{3, 0}, {-1, 0}, {0, 3}, {0, -1}, {Integer.MAX_VALUE, 0}, {0, Integer.MIN_VALUE}};
        for (int[] b : bad) {
            due.is("37: none such", x.row(b[0], b[1]), -9);
            due.is("38: none such", x.alterRow(b[0], b[1], 1), -9);
        }
        due.is("36: BAD", x.prove(5), -1);
        due.is("36: BAD leaves them", x.many(4), 3);
        due.is("38: what it was", x.alterRow(1, 1, Integer.MIN_VALUE), 15);
        due.is("38: what it was", x.alterRow(1, 1, -9), Integer.MIN_VALUE);
        due.is("37: what it became", x.row(1, 1), -9);
        due.is("36: fewer", x.prove(1), 1);
        due.is("37: fewer", x.row(1, 0), -9);
        due.is("36: none", x.prove(0), 0);
        due.is("49: none", x.many(4), 0);
        due.is("36: it changes nothing", x.state(0) + x.state(5), 0);
        x.change(0, 5, 1);
        x.prove(2);
        due.is("37: SERVED ahead is in the set", x.row(0, 2), 1);
    }

    private static void reader() {
        KiteSummons x = oneRed();
        x.kite(4, 0, 0, 1);
        x.farm(1, 0, 32);
        due.is("39: no ROWS", x.judge(), 0);
        x.prove(3);
        due.is("39: right", x.judge(), 0);
        for (int k = 0; k < 3; k++) {
            for (int what = 1; what < 3; what++) {
                int was = x.row(k, what);
                x.alterRow(k, what, was + 1);
                due.is("39: wrong " + what, x.judge(), k + 1);
                x.alterRow(k, what, was);
            }
            int act = x.row(k, 0);
            x.alterRow(k, 0, 3);
            due.is("39: no ACT", x.judge(), k + 1);
            x.alterRow(k, 0, -1);
            due.is("39: no ACT", x.judge(), k + 1);
            x.alterRow(k, 0, Integer.MAX_VALUE);
            due.is("39: no ACT", x.judge(), k + 1);
            x.alterRow(k, 0, act);
        }
        due.is("39: right again", x.judge(), 0);
        x.alterRow(2, 0, 1);
        due.is("39: another ACT that does the same", x.judge(), 0);
        x.ends(2);
        due.is("39: OVER ahead of it", x.judge(), 3);
        x.ends(12);
        x.gust();
        due.is("39: from how it is now", x.judge(), 1);
        x.ends(1);
        due.is("39: OVER", x.judge(), 1);
        due.is("39: it changes nothing", x.state(0), 1);
    }
}
