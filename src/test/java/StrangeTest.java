/** Promises 29 to 35: strange KITES, LOTS. */
public final class StrangeTest {
    private static final Due due = new Due();

    public static void main(String[] args) {
        report();
        span();
        kindsAndStrings();
        liar();
        seedAndLot();
        times();
        due.end("StrangeTest");
    }

    private static void report() {
        KiteSummons x = new KiteSummons();
        int[][] bad = {{-1, 0, 0, 0}, {16, 0, 0, 0}, {0, -1, 0, 0}, {0, 2, 0, 0}, {0, 0, -1, 0}, {0, 0, 8, 8},
            {0, 0, 0, 8}, {0, 0, 0, -1}, {0, 0, 1, 0}, {0, 1, 7, 6}};
        for (int[] b : bad) {
            due.is("29: BAD", x.report(b[0], b[1], b[2], b[3]), -1);
        }
        for (int i = 0; i < 6; i++) {
            due.is("29: its number", x.report(i % 2 * 15, i % 2, i, 7), i);
        }
        due.is("29: FULL", x.report(0, 0, 0, 7), -2);
        due.is("29: BAD ahead of FULL", x.report(0, 0, 7, 0), -1);
        due.is("49: six", x.many(3), 6);
        due.is("30: six", x.forget(), 6);
        due.is("30: none", x.forget(), 0);
        due.is("49: none", x.many(3), 0);
        due.is("29: from 0 again", x.report(0, 0, 7, 7), 0);
        due.is("30: one", x.forget(), 1);
        due.is("31: all", x.span(0), 320);
    }

    private static void span() {
        KiteSummons x = new KiteSummons();
        due.is("31: all", x.span(0), 320);
        due.is("31: KIND", x.span(1), 1);
        due.is("31: CELL", x.span(2), 0);
        due.is("31: BAD", x.span(3), -1);
        due.is("31: BAD", x.span(-1), -1);
        x.report(0, 0, 3, 3);
        due.is("31: one x", x.span(0), 40);
        due.is("31: one x", x.span(2), 3);
        x.report(0, 1, 5, 6);
        due.is("31: one x, two y", x.span(0), 10);
        due.is("31: CELL", x.span(2), 43);
        x.report(1, 0, 3, 3);
        due.is("31: only heavy stays", x.span(0), 2);
        due.is("31: heavy", x.span(1), 2);
        x.report(1, 1, 6, 7);
        due.is("31: but one", x.span(0), 1);
        due.is("31: CELL", x.span(2), 51);
        x.report(3, 0, 4, 7);
        due.is("31: none", x.span(0), 0);
        due.is("31: none", x.span(1), -3);
        due.is("31: none", x.span(2), -3);
        x.wind(1, 8);
        due.is("31: by WINDS as they are", x.span(1), 2);
        x.forget();
        x.gust();
        x.report(0, 0, 0, 0);
        x.report(1, 0, 2, 2);
        due.is("31: from GUST 0 on", x.span(0), 8);
        due.is("31: red", x.span(1), 1);
    }

    private static void kindsAndStrings() {
        int[] wind = {12, 14, 4, 8};
        int[][] path = {{}, {0, 6, 3, 3, 3}, {0, 2, 0, 0, 1}, {0, 3, 1, 2, 3}, {0, 1, 0, 1, 2}, {0, 1, 1, 2, 2}};
        for (int kind = 1; kind <= 5; kind++) {
            KiteSummons x = new KiteSummons();
            for (int g = 0; g < 4; g++) {
                x.wind(g, wind[g]);
            }
            x.report(0, 0, 0, 0);
            for (int k = 1; k <= 4; k++) {
                x.report(k, 0, path[kind][k], path[kind][k]);
            }
            x.report(0, 1, 2, 2);
            due.is("31: but one has this path", x.span(0), 1);
            due.is("31: KIND", x.span(1), kind);
            due.is("31: CELL", x.span(2), 16);
        }
        KiteSummons x = new KiteSummons();
        for (int g = 0; g < 16; g++) {
            x.wind(g, 0);
        }
        x.wind(14, 9);
        x.wind(15, 15);
        x.report(14, 1, 0, 0);
        x.report(15, 1, 4, 4);
        due.is("31: behind 15 GUSTS", x.span(0), 8);
        due.is("31: behind 15 GUSTS", x.span(1), 1);
        x.wind(14, 0);
        due.is("31: by the WIND of GUST 14", x.span(0), 0);
    }

    private static void liar() {
        KiteSummons x = new KiteSummons();
        due.is("32: all FIT", x.liar(), -3);
        x.report(0, 0, 1, 1);
        x.report(0, 1, 0, 7);
        due.is("32: some FIT", x.liar(), -3);
        x.report(0, 0, 2, 2);
        due.is("32: the least of two", x.liar(), 0);
        x.report(0, 0, 1, 3);
        due.is("32: still", x.liar(), 0);
        x.report(0, 0, 1, 1);
        due.is("32: that one", x.liar(), 2);
        x.report(0, 0, 2, 2);
        due.is("32: no one alone", x.liar(), -3);
        due.is("32: it changes nothing", x.many(3), 6);
    }

    private static KiteSummons twoBoxes() {
        KiteSummons x = new KiteSummons();
        x.wind(0, 0);
        x.kite(4, 0, 0, 0);
        x.kite(1, 0, 0, 0);
        return x;
    }

    private static void seedAndLot() {
        KiteSummons x = twoBoxes();
        due.is("34: z is 1 at first, ACT 2", x.lot(), 15);
        due.is("34: that", x.state(5), 2);
        due.is("33: z went on", x.seed(2), 1103527590);
        due.is("34: SCORE", x.state(2), 15);
        due.is("34: GUST", x.state(0), 1);
        due.is("34: ACT 1 by a z below 0", x.lot(), 12);
        due.is("33: z went on", x.seed(Integer.MIN_VALUE), -2087924461);
        due.is("33: z", x.seed(-1), Integer.MIN_VALUE);
        due.is("33: z", x.seed(1), -1);
        x.ends(2);
        due.is("34: OVER", x.lot(), -4);
        due.is("34: z stays then", x.seed(1), 1);
        KiteSummons one = new KiteSummons();
        one.kite(4, 0, 0, 0);
        due.is("34: ACT 0 of one KITE", one.lot(), 0);
        due.is("34: it is ALOFT", one.state(4), 1);
        KiteSummons none = new KiteSummons();
        due.is("34: no KITES", none.lot(), 0);
        due.is("34: a GUST went by", none.state(0), 1);
        KiteSummons held = twoBoxes();
        Due.told(held, "red cut;");
        due.is("34: by THE RULES", held.lot(), 1);
    }

    /** times() against lots that are really drawn. */
    private static void times() {
        KiteSummons x = Due.county();
        x.seed(12345);
        x.ends(4);
        x.gust();
        x.keep();
        int z = 12345;
        int[] worth = new int[8];
        for (int i = 0; i < 8; i++) {
            x.again();
            x.seed(z);
            for (int g = 0; g < 3; g++) {
                worth[i] += x.lot();
            }
            z = x.seed(0);
        }
        x.again();
        for (int v : new int[] {0, 1, 3, 5, 7, 8, 9, 11, 13, 999}) {
            for (int n = 1; n <= 8; n++) {
                int reached = 0;
                for (int i = 0; i < n; i++) {
                    reached += worth[i] >= v ? 1 : 0;
                }
                due.is("35: " + n + " times " + v, x.times(n, v), reached);
            }
        }
        due.is("35: z is as it was", x.seed(12345), 12345);
        due.is("35: GUST is as it was", x.state(0), 1);
        due.is("35: SCORE is as it was", x.state(2), 15);
        due.is("35: BAD", x.times(0, 0), -1);
        due.is("35: BAD", x.times(41, 0), -1);
        due.is("35: BAD", x.times(1, -1), -1);
        due.is("35: BAD", x.times(1, 1000), -1);
        due.is("35: 40 times", x.times(40, 0), 40);
        x.ends(1);
        due.is("35: OVER", x.times(3, 0), 3);
        due.is("35: OVER", x.times(3, 1), 0);
        due.is("35: z is as it was", x.seed(1), 12345);
    }
}
