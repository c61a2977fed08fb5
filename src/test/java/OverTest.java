/** Promises 19 to 21: OVER, CASES, CIRCUITS. */
public final class OverTest {
    private static final Due due = new Due();

    public static void main(String[] args) {
        over();
        cases();
        circuit();
        longCircuits();
        due.end("OverTest");
    }

    private static void over() {
        KiteSummons x = new KiteSummons();
        x.kite(1, 0, 9, 0);
        x.farm(0, 0, 2);
        int[] first = {-3, -3, 0, -3, 1, -3, 2, 3};
        for (int cell = 0; cell < 8; cell++) {
            due.is("19: though a FARM is in reach, CELL " + cell, x.over(cell), first[cell]);
        }
        due.is("19: another row", x.over(8), -3);
        due.is("19: no such CELL", x.over(64), -1);
        due.is("19: no such CELL", x.over(-1), -1);
        due.is("19: it changes nothing", x.kiteOf(0, 1) + x.state(0), 0);
        x.kite(4, 3, 1, 0);
        due.is("19: any KITE", x.over(4), 0);
        due.is("19: without STRING it stays", x.over(7), 3);
        x.change(0, 4, 0);
        due.is("19: only ALOFT", x.over(2), -3);
        x.change(0, 4, 1);
        x.ends(3);
        due.is("19: not behind END", x.over(7), -3);
        x.ends(4);
        due.is("19: in the last GUST", x.over(7), 3);
        x.gust();
        due.is("19: told by the number of the GUST", x.over(4), 1);
        x.ends(1);
        due.is("19: OVER", x.over(4), -3);
        KiteSummons y = new KiteSummons();
        y.kite(2, 63, 9, 0);
        y.gust();
        y.gust();
        due.is("19: who stays is there at once", y.over(63), 2);
    }

    private static void cases() {
        KiteSummons x = new KiteSummons();
        due.is("20: none", x.cases(-1), 0);
        due.is("20: no such KITE", x.cases(0), -1);
        x.kite(1, 9, 0, 0);
        due.is("20: one by itself", x.cases(-1), 1);
        due.is("20: one by itself", x.cases(0), 1);
        x.kite(1, 27, 0, 0);
        due.is("20: two", x.cases(-1), 2);
        x.kite(1, 18, 0, 0);
        due.is("20: one by the other", x.cases(-1), 1);
        due.is("20: all three", x.cases(0), 7);
        due.is("20: all three", x.cases(1), 7);
        x.change(2, 4, 0);
        due.is("20: what lies parts them", x.cases(-1), 2);
        due.is("20: it is in no CASE", x.cases(2), 0);
        due.is("20: by itself", x.cases(0), 1);
        due.is("20: by itself", x.cases(1), 2);
        x.change(2, 4, 1);
        x.change(2, 1, 9);
        due.is("20: at one CELL", x.cases(2), 5);
        x.change(0, 1, 7);
        x.change(2, 1, 8);
        due.is("20: rows don't meet at the edge", x.cases(0), 1);
        x.change(2, 1, 16);
        due.is("20: nor so", x.cases(-1), 3);
        x.change(2, 1, 14);
        due.is("20: below", x.cases(0), 5);
        x.change(2, 1, 23);
        due.is("20: two below", x.cases(0), 1);
        x.change(2, 1, 5);
        due.is("20: two beside", x.cases(0), 1);
        due.is("20: no such KITE", x.cases(3), -1);
        due.is("20: no such KITE", x.cases(6), -1);
        due.is("20: another what", x.cases(-2), -1);
        KiteSummons y = new KiteSummons();
        int[] chain = {0, 5, 2, 4, 1, 3};
        for (int at : chain) {
            y.kite(4, at, 0, 0);
        }
        due.is("20: a chain of six", y.cases(-1), 1);
        for (int k = 0; k < 6; k++) {
            due.is("20: all of the chain", y.cases(k), 63);
        }
        y.change(5, 4, 0);
        due.is("20: two parts", y.cases(-1), 2);
        due.is("20: one part", y.cases(0), 21);
        due.is("20: the other", y.cases(3), 10);
    }

    private static KiteSummons lying(int... cells) {
        KiteSummons x = new KiteSummons();
        for (int k = 0; k < cells.length; k++) {
            x.kite(1, cells[k], 0, 0);
            x.change(k, 4, 0);
        }
        return x;
    }

    private static void circuit(String what, int from, int steps, int first, int... cells) {
        KiteSummons x = lying(cells);
        due.is("21: steps, " + what, x.circuit(from, 0), steps);
        due.is("21: first, " + what, x.circuit(from, 1), first);
        due.is("21: it changes nothing", x.state(0) + x.state(4), 0);
    }

    private static void circuit() {
        circuit("none lies", 5, 0, -3);
        circuit("one", 0, 14, 0, 63);
        circuit("one right there", 63, 0, 0, 63);
        circuit("in a row", 0, 7, 1, 7, 1, 2);
        circuit("both ways are as long", 3, 3, 0, 4, 2);
        circuit("both ways are as long", 3, 3, 0, 2, 4);
        circuit("the nearest first is longer", 3, 7, 2, 2, 0, 5);
        circuit("two at one CELL", 0, 3, 0, 3, 3);
        KiteSummons x = lying(8, 7);
        x.kite(1, 1, 0, 0);
        due.is("21: who is ALOFT isn't gone to", x.circuit(0, 0), 9);
        due.is("21: the first", x.circuit(0, 1), 0);
        due.is("21: no such CELL", x.circuit(64, 0), -1);
        due.is("21: no such CELL", x.circuit(-1, 1), -1);
        due.is("21: another what", x.circuit(0, 2), -1);
        due.is("21: another what", x.circuit(0, -1), -1);
        x.change(0, 4, 1);
        x.change(1, 4, 1);
        due.is("21: none lies", x.circuit(0, 0), 0);
        due.is("21: none lies", x.circuit(0, 1), -3);
    }

    private static void longCircuits() {
        circuit("four corners", 0, 21, 0, 0, 7, 56, 63);
        circuit("four corners, others first", 7, 21, 1, 0, 7, 56, 63);
        circuit("six in a row", 2, 9, 1, 7, 0, 6, 1, 5, 3);
        circuit("six of a square", 9, 6, 1, 27, 9, 18 + 8, 10, 17 + 8, 17);
    }
}
