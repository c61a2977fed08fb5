/** The sentences of PLANS, GAMES and ROWS, and of promises 22 to 28 and 36 to 39, that name a boundary. */
public final class EdgePlanTest {
    private static final Due due = new Due();
    private static final int MIN = Integer.MIN_VALUE;
    private static final int MAX = Integer.MAX_VALUE;

    public static void main(String[] args) {
        planBounds();
        planOfNone();
        planWithoutKites();
        planOfFour();
        planFewer();
        planWhenOver();
        planOfSix();
        actOfWhoLies();
        lesserActFirst();
        ithBounds();
        ithNone();
        setBounds();
        emptySet();
        wholeSet();
        servedAhead();
        fewestActs();
        barLeast();
        barEachAlone();
        gameBounds();
        gameFewer();
        gameWhenOver();
        gameWithoutKites();
        gameInTurn();
        playLeast();
        proveBounds();
        proveFewer();
        rowBounds();
        rowsOfNone();
        alterRowBecomes();
        judgeOfNone();
        judgeActs();
        judgeEachRow();
        judgeWhenOver();
        due.end("EdgePlanTest");
    }

    /** So many box KITES at their FARM, WORTH 12 each: one a GUST can be SERVED. */
    private static KiteSummons boxes(int many) {
        KiteSummons x = Due.still();
        for (int k = 0; k < many; k++) {
            x.kite(4, 0, 0, 0);
        }
        return x;
    }

    /** Promises 22 to 26 and 36: "n (0 to 4)"; "BAD". */
    private static void planBounds() {
        KiteSummons x = boxes(1);
        due.bad("22: n", n -> x.best(n), -1, 5);
        due.bad("23: n", n -> x.ith(n, 0), -1, 5);
        due.bad("24: n", n -> x.ways(n), -1, 5);
        due.bad("25: n", n -> x.writ(n, 0), -1, 5);
        due.bad("26: n", n -> x.bars(n, 0), -1, 5);
        due.bad("36: n", n -> x.prove(n), -1, 5);
    }

    /** A PLAN of 0: no GUSTS, and there is one such. */
    private static void planOfNone() {
        KiteSummons x = boxes(2);
        due.is("22: of 0", x.best(0), 0);
        due.is("23: of 0", x.ith(0, 0), -3);
        due.is("24: of 0", x.ways(0), 1);
        due.is("25: of 0, none", x.writ(0, 0), 0);
        due.is("25: of 0, one", x.writ(0, 1), -3);
        due.is("26: of 0, none", x.bars(0, 0), -3);
        due.is("26: of 0, both", x.bars(0, 3), 0);
        due.is("26: of 0, the other", x.bars(0, 2), 1);
        due.is("36: of 0", x.prove(0), 0);
    }

    /** Without KITES there is but one ACT. */
    private static void planWithoutKites() {
        KiteSummons x = new KiteSummons();
        for (int n = 0; n <= 4; n++) {
            due.is("22: without KITES", x.best(n), 0);
            due.is("24: without KITES", x.ways(n), 1);
            due.is("25: without KITES", x.writ(n, 0), 0);
            due.is("26: without KITES", x.bars(n, 0), -3);
            for (int i = 0; i < 4; i++) {
                due.is("23: without KITES", x.ith(n, i), i < n ? 0 : -3);
            }
            due.is("36: without KITES", x.prove(n), n);
            due.is("39: without KITES", x.judge(), 0);
        }
    }

    /** "A PLAN of n: n GUSTS": 4 are the most. */
    private static void planOfFour() {
        KiteSummons x = boxes(4);
        int[] ways = {1, 4, 12, 24, 24};
        for (int n = 0; n <= 4; n++) {
            due.is("22: of " + n, x.best(n), 12 * n);
            due.is("24: of " + n, x.ways(n), ways[n]);
            for (int i = 0; i < 4; i++) {
                due.is("23: of " + n + ", " + i, x.ith(n, i), i < n ? i + 1 : -3);
            }
        }
        due.is("36: of 4", x.prove(4), 4);
        for (int k = 0; k < 4; k++) {
            due.is("37: SERVED behind GUST " + k, x.row(k, 2), (2 << k) - 1);
        }
    }

    /** "(fewer, if it is OVER)": 1 to 4 GUSTS are left. */
    private static void planFewer() {
        for (int left = 1; left <= 4; left++) {
            KiteSummons x = boxes(4);
            x.ends(left);
            for (int n = 0; n <= 4; n++) {
                int gusts = Math.min(n, left);
                due.is("22: of " + n + ", left " + left, x.best(n), 12 * gusts);
                due.is("24: of " + n + ", left " + left, x.ways(n), new int[] {1, 4, 12, 24, 24}[gusts]);
                due.is("25: all, by " + n + ", left " + left, x.writ(n, 15), gusts == 4 ? 4 : -3);
                due.is("26: all, by " + n + ", left " + left, x.bars(n, 15), gusts == 0 ? 0 : -3);
                due.is("36: of " + n + ", left " + left, x.prove(n), gusts);
                for (int i = 0; i < 4; i++) {
                    due.is("23: of " + n + ", left " + left, x.ith(n, i), i < gusts ? i + 1 : -3);
                }
            }
        }
    }

    /** "(fewer, if it is OVER)": none are left. */
    private static void planWhenOver() {
        KiteSummons x = boxes(2);
        x.ends(1);
        x.gust();
        for (int n = 0; n <= 4; n++) {
            due.is("22: OVER", x.best(n), 0);
            due.is("23: OVER", x.ith(n, 0), -3);
            due.is("24: OVER", x.ways(n), 1);
            due.is("25: OVER, SERVED", x.writ(n, 1), 0);
            due.is("25: OVER, not SERVED", x.writ(n, 3), -3);
            due.is("26: OVER", x.bars(n, 3), 1);
            due.is("36: OVER", x.prove(n), 0);
        }
        KiteSummons y = boxes(1);
        y.ends(16);
        y.change(0, 4, 0);
        for (int gust = 0; gust < 15; gust++) {
            y.gust();
        }
        y.change(0, 4, 1);
        due.is("22: GUST 15 alone", y.best(4), 12);
        due.is("24: GUST 15 alone", y.ways(4), 1);
        y.gust();
        due.is("22: behind GUST 15", y.best(4), 0);
        due.is("24: behind GUST 15", y.ways(4), 1);
    }

    /** Six KITES, 4 GUSTS: all PLANS are 7 * 7 * 7 * 7. */
    private static void planOfSix() {
        KiteSummons x = boxes(6);
        due.is("22: four of six", x.best(4), 48);
        due.is("24: four of six", x.ways(4), 6 * 5 * 4 * 3);
        due.is("23: the last ACT", x.ith(4, 3), 4);
        due.is("25: four of six", x.writ(4, 60), 4);
        due.is("25: five of six", x.writ(4, 62), -3);
        due.is("26: each of six", x.bars(4, 63), -3);
        Due.told(x, "kite hold;");
        due.is("22: all hold", x.best(4), 0);
        due.is("24: all hold", x.ways(4), 2401);
        due.is("23: none is told", x.ith(4, 0), 0);
        Due.told(x, "kite if number = 5 serve; kite hold;");
        due.is("23: the last KITE, in the last GUST", x.ith(4, 3), 6);
        due.is("23: none ahead of it", x.ith(4, 2), 0);
        due.is("24: it is told at last, or ahead", x.ways(4), 2401 - 6 * 6 * 6 * 6);
    }

    /** "1 more than the number of the KITE that is (told)": one that lies may be, and does nothing. */
    private static void actOfWhoLies() {
        KiteSummons x = boxes(2);
        x.change(1, 4, 0);
        due.is("22: who lies is WORTH nothing", x.best(2), 12);
        due.is("24: 0 or who lies, or SERVED, beside the one", x.ways(2), 2 + 3);
        due.is("23: none first", x.ith(2, 0), 0);
        due.is("23: then the one", x.ith(2, 1), 1);
    }

    /** "the FIRST of these is that with the lesser ACT where they are unlike first". */
    private static void lesserActFirst() {
        KiteSummons x = boxes(1);
        int[][] first = {{}, {1}, {0, 1}, {0, 0, 1}, {0, 0, 0, 1}};
        for (int n = 1; n <= 4; n++) {
            due.is("24: at any time, then 0 or again", x.ways(n), (1 << n) - 1);
            for (int i = 0; i < n; i++) {
                due.is("23: as late as can be", x.ith(n, i), first[n][i]);
            }
        }
        x.wind(1, 0);
        x.kite(4, 1, 0, 0);
        due.is("22: the better one", x.best(1), 12);
        due.is("23: the better one", x.ith(1, 0), 1);
        x.change(1, 1, 0);
        x.change(0, 1, 1);
        due.is("23: not the least, the better one", x.ith(1, 0), 2);
        due.is("23: of both rows the lesser", x.ith(2, 0), 1);
    }

    /** Promise 23: "The i-th (0 to 3) ACT"; "BAD" ahead of "NONE". */
    private static void ithBounds() {
        KiteSummons x = boxes(4);
        for (int n = 0; n <= 4; n++) {
            int length = n;
            due.bad("23: i", i -> x.ith(length, i), -1, 4);
        }
        due.is("23: the first", x.ith(4, 0), 1);
        due.is("23: the last", x.ith(4, 3), 4);
    }

    /** Promise 23: "NONE: it has not so many". */
    private static void ithNone() {
        KiteSummons x = boxes(4);
        for (int n = 0; n <= 3; n++) {
            due.is("23: the last of " + n, n == 0 ? 0 : x.ith(n, n - 1), n);
            due.is("23: one more than " + n, x.ith(n, n), -3);
            due.is("23: the most", x.ith(n, 3), -3);
        }
        x.ends(3);
        due.is("23: three are left", x.ith(4, 2), 3);
        due.is("23: no fourth", x.ith(4, 3), -3);
    }

    /** Promises 25 and 26: "a set of KITES (of such as there are)"; "BAD". */
    private static void setBounds() {
        for (int kites = 0; kites <= 6; kites++) {
            KiteSummons x = boxes(kites);
            due.bad("25: set", set -> x.writ(1, set), -1, -2, 1 << kites, 1 << kites | 1, 64, 127);
            due.bad("26: set", set -> x.bars(1, set), -1, -2, 1 << kites, 1 << kites | 1, 64, 127);
            int last = kites == 0 ? 0 : 1 << kites - 1;
            due.is("25: the last KITE", x.writ(1, last), kites == 0 ? 0 : 1);
            due.is("26: all KITES", x.bars(1, (1 << kites) - 1), -3);
        }
        KiteSummons x = boxes(6);
        due.bad("25: n and set", set -> x.writ(5, set), -1, 0, 64);
        due.bad("26: n and set", set -> x.bars(5, set), -1, 0, 64);
    }

    /** Of an empty set each is SERVED: no ACT is needed, and none bars it. */
    private static void emptySet() {
        KiteSummons x = boxes(3);
        for (int n = 0; n <= 4; n++) {
            due.is("25: none", x.writ(n, 0), 0);
            due.is("26: none", x.bars(n, 0), -3);
        }
    }

    /** "behind which each of them is SERVED": as many as GUSTS, and one more. */
    private static void wholeSet() {
        KiteSummons x = boxes(5);
        for (int n = 1; n <= 4; n++) {
            due.is("25: as many as GUSTS", x.writ(n, (1 << n) - 1), n);
            due.is("25: one more", x.writ(n, (2 << n) - 1), -3);
            due.is("26: each by itself", x.bars(n, 31), -3);
        }
    }

    /** Who is SERVED ahead needs no ACT, whether ALOFT or not. */
    private static void servedAhead() {
        KiteSummons x = boxes(6);
        for (int k = 0; k < 6; k++) {
            x.change(k, 5, 1);
            x.change(k, 4, k % 2);
        }
        due.is("25: all six", x.writ(0, 63), 0);
        due.is("26: all six", x.bars(0, 63), -3);
        x.change(5, 5, 0);
        due.is("25: five of six", x.writ(0, 63), -3);
        due.is("25: and one more", x.writ(1, 63), 1);
        due.is("26: that one", x.bars(0, 63), 5);
    }

    /** "the fewest ACTS that aren't 0": not more than are needed, though there is time. */
    private static void fewestActs() {
        KiteSummons x = boxes(3);
        for (int n = 1; n <= 4; n++) {
            due.is("25: one of three", x.writ(n, 2), 1);
        }
        due.is("25: two of three", x.writ(4, 5), 2);
        due.is("25: three", x.writ(4, 7), 3);
        Due.told(x, "kite if gust < 3 hold;");
        due.is("25: held till GUST 3", x.writ(3, 1), -3);
        due.is("25: in GUST 3", x.writ(4, 1), 1);
        due.is("25: but one GUST", x.writ(4, 3), -3);
    }

    /** "BAR: the least of them that is so behind no PLAN of n". */
    private static void barLeast() {
        KiteSummons x = boxes(6);
        x.change(1, 1, 63);
        x.change(4, 1, 63);
        due.is("26: the least", x.bars(4, 63), 1);
        due.is("26: the least of these", x.bars(4, 61), 4);
        due.is("26: none of these", x.bars(4, 45), -3);
        due.is("26: the other one", x.bars(4, 16), 4);
        x.change(5, 4, 0);
        due.is("26: who lies", x.bars(4, 32), 5);
    }

    /** "NONE: each is so behind some" PLAN: not all behind one. */
    private static void barEachAlone() {
        KiteSummons x = boxes(6);
        due.is("26: each behind some", x.bars(1, 63), -3);
        due.is("25: not all behind one", x.writ(1, 63), -3);
    }

    /** Promises 27 and 28: "n (1 to 4)"; "BAD". */
    private static void gameBounds() {
        KiteSummons x = boxes(1);
        due.bad("27: n", n -> x.game(n), -1, 0, 5);
        due.bad("28: n", n -> x.play(n), -1, 0, 5);
        due.is("27: 1", x.game(1), 12);
        due.is("27: 4", x.game(4), 12);
        due.is("28: 1", x.play(1), 1);
    }

    /** "(till it is OVER)": fewer GUSTS than n. */
    private static void gameFewer() {
        KiteSummons x = boxes(6);
        int[] values = {0, 12, 12, 24, 24};
        for (int left = 1; left <= 4; left++) {
            x.ends(left);
            for (int n = 1; n <= 4; n++) {
                due.is("27: of " + n + ", left " + left, x.game(n), values[Math.min(n, left)]);
            }
        }
        x.ends(16);
        for (int n = 1; n <= 4; n++) {
            due.is("27: of " + n, x.game(n), values[n]);
        }
    }

    /** Promise 28: "NONE: it is OVER", BAD ahead of it; the VALUE is 0 then. */
    private static void gameWhenOver() {
        KiteSummons x = boxes(3);
        x.ends(1);
        due.is("28: not OVER", x.play(4), 1);
        x.gust();
        for (int n = 1; n <= 4; n++) {
            due.is("27: OVER", x.game(n), 0);
            due.is("28: OVER", x.play(n), -3);
        }
        due.bad("28: BAD ahead of NONE", n -> x.play(n), -1, 0, 5);
        due.bad("27: BAD", n -> x.game(n), -1, 0, 5);
    }

    /** "an ACT (also 0)": without KITES there is no other. */
    private static void gameWithoutKites() {
        KiteSummons x = new KiteSummons();
        for (int n = 1; n <= 4; n++) {
            due.is("27: without KITES", x.game(n), 0);
            due.is("28: without KITES", x.play(n), 0);
        }
    }

    /** "the first one wants as much WORTH as can be, the other one as little": by turns, the first one first. */
    private static void gameInTurn() {
        KiteSummons x = boxes(1);
        x.farm(0, 1, 0);
        x.change(0, 1, 1);
        x.change(0, 2, 9);
        x.wind(0, 0);
        x.wind(1, 6);
        due.is("27: out of reach in GUST 0", x.game(1), 0);
        due.is("27: in reach in GUST 1, when the other one doesn't tell it", x.game(2), 0);
        due.is("27: in reach in GUST 2, too, when the first one does", x.game(3), 12);
        x.wind(1, 0);
        x.wind(2, 6);
        due.is("27: the other one tells it in GUST 1, too soon", x.game(3), 0);
        x.gust();
        due.is("27: from GUST 1 on the first one is first", x.game(1), 0);
        due.is("27: and the other one second", x.game(2), 0);
        x.gust();
        due.is("27: from GUST 2 on the first one tells it", x.game(2), 12);
    }

    /** Promise 28: "The least ACT by which who begins comes to it". */
    private static void playLeast() {
        KiteSummons x = boxes(6);
        due.is("28: all are as good", x.play(1), 1);
        x.change(0, 1, 1);
        due.is("28: the others are as good", x.play(1), 2);
        for (int k = 1; k < 5; k++) {
            x.change(k, 1, 1);
        }
        due.is("28: the last is best", x.play(1), 6);
        Due.told(x, "kite hold;");
        due.is("28: none is of use", x.play(4), 0);
        KiteSummons y = boxes(1);
        due.is("28: it can wait", y.play(3), 0);
        due.is("28: it can't wait for the other one", y.play(1), 1);
    }

    /** Promise 36: "how many" ROWS; BAD leaves them. */
    private static void proveBounds() {
        KiteSummons x = boxes(4);
        for (int n = 4; n >= 0; n--) {
            due.is("36: " + n, x.prove(n), n);
            due.is("49: as many", x.many(4), n);
            due.is("37: the last", n == 0 ? n : x.row(n - 1, 0), n);
            due.is("37: no more", x.row(n, 0), -9);
        }
        x.prove(3);
        due.bad("36: n", n -> x.prove(n), -1, 5);
        due.is("36: BAD leaves them", x.many(4), 3);
        due.is("36: BAD leaves them", x.row(2, 0), 3);
    }

    /** Promise 36, as a PLAN has fewer GUSTS when it is OVER; what was altered is gone. */
    private static void proveFewer() {
        KiteSummons x = boxes(4);
        x.prove(4);
        x.alterRow(3, 0, 77);
        x.alterRow(1, 1, 77);
        x.ends(2);
        due.is("36: two are left", x.prove(4), 2);
        due.is("37: none such", x.row(3, 0), -9);
        due.is("37: none such", x.row(2, 0), -9);
        due.is("37: as it is now", x.row(1, 1), 12);
        x.ends(4);
        due.is("36: four", x.prove(4), 4);
        due.is("37: as it is now", x.row(3, 0), 4);
    }

    /** Promises 37 and 38: "-9: there is none such, another what". */
    private static void rowBounds() {
        KiteSummons x = boxes(4);
        int[] off = {MIN, MIN + 1, -256, -4, -3, -1, 3, 4, 5, 256, 65536, MAX - 1, MAX};
        for (int rows = 0; rows <= 4; rows++) {
            x.prove(rows);
            for (int k = 0; k < 4; k++) {
                for (int what = 0; what <= 2; what++) {
                    int[] is = {k + 1, 12, (2 << k) - 1};
                    due.is("37: ROW " + k + " of " + rows, x.row(k, what), k < rows ? is[what] : -9);
                }
            }
        }
        for (int one : off) {
            boolean isRow = one == 3;
            due.is("37: ROW " + one, x.row(one, 0), isRow ? 4 : -9);
            due.is("38: ROW " + one, x.alterRow(one, 0, 9), isRow ? 4 : -9);
            due.is("37: what " + one, x.row(0, one), -9);
            due.is("38: what " + one, x.alterRow(0, one, 9), -9);
        }
        for (int what = 0; what <= 2; what++) {
            due.is("37: ROW 0 stays", x.row(0, what), new int[] {1, 12, 1}[what]);
        }
    }

    /** There are no ROWS at first, and none behind prove(0). */
    private static void rowsOfNone() {
        KiteSummons x = boxes(1);
        for (int time = 0; time < 2; time++) {
            for (int k = 0; k < 4; k++) {
                for (int what = 0; what <= 2; what++) {
                    due.is("37: no ROWS", x.row(k, what), -9);
                    due.is("38: no ROWS", x.alterRow(k, what, 5), -9);
                }
            }
            due.is("49: no ROWS", x.many(4), 0);
            x.prove(4);
            x.prove(0);
        }
    }

    /** Promise 38: "It becomes v: what it was": any v. */
    private static void alterRowBecomes() {
        KiteSummons x = boxes(4);
        x.prove(4);
        int[] vs = {MIN, -9, -1, 0, 7, 255, MAX};
        for (int k = 0; k < 4; k++) {
            for (int what = 0; what <= 2; what++) {
                int was = x.row(k, what);
                for (int v : vs) {
                    due.is("38: what it was", x.alterRow(k, what, v), was);
                    due.is("37: what it is", x.row(k, what), v);
                    was = v;
                }
            }
        }
    }

    /** Promise 39: "0 all is right": of no ROWS, too, when it is OVER, too. */
    private static void judgeOfNone() {
        KiteSummons x = new KiteSummons();
        due.is("39: no ROWS", x.judge(), 0);
        x.ends(1);
        x.gust();
        due.is("39: no ROWS, OVER", x.judge(), 0);
        x.prove(4);
        due.is("39: none behind prove()", x.judge(), 0);
    }

    /** "right is one whose ACT is one": 0 to as many as there are KITES. */
    private static void judgeActs() {
        for (int kites = 0; kites <= 6; kites++) {
            KiteSummons x = boxes(kites);
            Due.told(x, "kite hold;");
            x.prove(1);
            for (int act = 0; act <= kites; act++) {
                x.alterRow(0, 0, act);
                due.is("39: ACT " + act + " of " + kites, x.judge(), 0);
            }
            int[] others = {kites + 1, -1, 7, 8, 256, -256, 65536, MIN, MAX};
            for (int other : others) {
                x.alterRow(0, 0, other);
                due.is("39: ACT " + other + " of " + kites, x.judge(), 1);
            }
        }
    }

    /** Promise 39: "else the first ROW that isn't, and 1 more": each of four, by each of its parts. */
    private static void judgeEachRow() {
        KiteSummons x = boxes(4);
        x.prove(4);
        due.is("39: all four are right", x.judge(), 0);
        for (int k = 3; k >= 0; k--) {
            for (int what = 1; what <= 2; what++) {
                int was = x.row(k, what);
                x.alterRow(k, what, was - 1);
                due.is("39: ROW " + k, x.judge(), k + 1);
                x.alterRow(k, what, was + 1);
                due.is("39: ROW " + k, x.judge(), k + 1);
                x.alterRow(k, what, was + 256);
                due.is("39: ROW " + k, x.judge(), k + 1);
                x.alterRow(k, what, was);
            }
        }
        x.alterRow(3, 1, 0);
        x.alterRow(2, 2, 0);
        due.is("39: the first of two", x.judge(), 3);
        x.alterRow(0, 0, 2);
        due.is("39: another that is WORTH as much, but not that one", x.judge(), 1);
        x.alterRow(0, 2, 2);
        due.is("39: that one; then KITE 1 lies already", x.judge(), 2);
    }

    /** "if it isn't OVER": ahead of the first ROW, ahead of the last. */
    private static void judgeWhenOver() {
        KiteSummons x = boxes(0);
        x.prove(4);
        for (int end = 1; end <= 5; end++) {
            x.ends(end);
            due.is("39: END " + end, x.judge(), end < 4 ? end + 1 : 0);
        }
        x.ends(16);
        for (int gust = 0; gust <= 16; gust++) {
            int left = 16 - gust;
            due.is("39: from GUST " + gust, x.judge(), left < 4 ? left + 1 : 0);
            x.gust();
        }
    }
}
