/** The sentences of STRANGE KITES and of LOTS, and of promises 29 to 35, that name a boundary. */
public final class EdgeStrangeTest {
    private static final Due due = new Due();
    private static final int MIN = Integer.MIN_VALUE;
    private static final int MAX = Integer.MAX_VALUE;
    private static final long ALL_INTS = 1L << 32;

    public static void main(String[] args) {
        reportBounds();
        reportOfOnePlace();
        reportFull();
        forgetNone();
        spanBounds();
        spanOfAll();
        spanOfNone();
        spanOfTheLast();
        leastKindThenLeastCell();
        behindNoGusts();
        behind15Gusts();
        stringOf9();
        strangeAtTheEdge();
        strangeByForce0();
        leastAndMost();
        strangeKnowNoEnd();
        liarOfNone();
        liarWhereSomeFit();
        liarOfOne();
        liarLeast();
        liarLast();
        liarOfNoOne();
        seedAny();
        lotWraps();
        lotLeaves();
        lotWithoutKites();
        lotWhenOver();
        timesBounds();
        timesOrMore();
        timesZGoesOn();
        timesWhenOver();
        timesOfAllGusts();
        timesOfGustsTogether();
        due.end("EdgeStrangeTest");
    }

    private static int at(int x, int y) {
        return x + 8 * y;
    }

    /** What z becomes, by numbers that don't wrap by themselves. */
    private static int next(int z) {
        long product = (z & ALL_INTS - 1) * 1103515245L % ALL_INTS;
        return (int) ((product + 12345) % ALL_INTS);
    }

    /** The z that becomes this one: 4005161829 * 1103515245 is 1 more than a number of times all ints. */
    private static int before(int z) {
        long less = ((z & ALL_INTS - 1) - 12345 + ALL_INTS) % ALL_INTS;
        int v = (int) (less * 4005161829L % ALL_INTS);
        due.is("T3: z ahead of " + z, next(v), z);
        return v;
    }

    /** Promise 29: "k GUSTS (0 to 15)", "x (axis 0) or y (axis 1)", "(0 to 7)"; "BAD: also MOST below LEAST". */
    private static void reportBounds() {
        KiteSummons x = new KiteSummons();
        due.bad("29: k", k -> x.report(k, 0, 0, 7), -1, 16);
        due.bad("29: axis", axis -> x.report(0, axis, 0, 7), -1, 2);
        due.bad("29: least", least -> x.report(0, 0, least, 7), -1, 8);
        due.bad("29: most", most -> x.report(0, 0, 0, most), -1, 8);
        due.bad("29: both", both -> x.report(0, 1, both, both), -1, 8);
        for (int least = 1; least <= 7; least++) {
            due.is("29: MOST below LEAST", x.report(0, 0, least, least - 1), -1);
            due.is("29: MOST far below LEAST", x.report(15, 1, least, 0), -1);
        }
        due.is("29: none came", x.many(3), 0);
        due.is("29: all least", x.report(0, 0, 0, 0), 0);
        due.is("29: all most", x.report(15, 1, 7, 7), 1);
        due.is("29: from least to most", x.report(15, 0, 0, 7), 2);
    }

    /** MOST may be LEAST: each place of each axis. */
    private static void reportOfOnePlace() {
        for (int axis = 0; axis <= 1; axis++) {
            for (int place = 0; place <= 7; place++) {
                KiteSummons x = new KiteSummons();
                due.is("29: one place", x.report(0, axis, place, place), 0);
                due.is("31: 5 KINDS at 8 CELLS", x.span(0), 40);
                due.is("31: the least CELL", x.span(2), axis == 0 ? place : 8 * place);
            }
        }
    }

    /** "(6 at most)": "its number"; "FULL", and BAD ahead of it. */
    private static void reportFull() {
        KiteSummons x = new KiteSummons();
        for (int time = 0; time < 2; time++) {
            for (int i = 0; i < 6; i++) {
                due.is("29: its number", x.report(i, 0, 0, 7), i);
                due.is("49: how many", x.many(3), i + 1);
            }
            due.is("29: FULL", x.report(0, 0, 0, 7), -2);
            due.is("29: BAD ahead of FULL", x.report(16, 0, 0, 7), -1);
            due.is("29: BAD ahead of FULL", x.report(0, 2, 0, 7), -1);
            due.is("29: BAD ahead of FULL", x.report(0, 0, 5, 4), -1);
            due.is("29: six yet", x.many(3), 6);
            due.is("30: forget six", x.forget(), 6);
        }
    }

    /** Promise 30: "There are no REPORTS: how many there were": none, too. */
    private static void forgetNone() {
        KiteSummons x = new KiteSummons();
        due.is("30: none", x.forget(), 0);
        due.is("30: none", x.forget(), 0);
        x.report(0, 0, 1, 1);
        x.report(0, 0, 2, 2);
        due.is("31: none FITS", x.span(0), 0);
        due.is("30: two", x.forget(), 2);
        due.is("31: all FIT again", x.span(0), 320);
        due.is("29: from 0 on", x.report(0, 0, 1, 1), 0);
        due.is("31: nothing of the old ones", x.span(0), 40);
    }

    /** Promise 31: "what = 0 .. 2"; "BAD". */
    private static void spanBounds() {
        KiteSummons x = new KiteSummons();
        due.bad("31: what", what -> x.span(what), -1, 3);
        x.report(0, 0, 0, 0);
        x.report(0, 0, 1, 1);
        due.bad("31: what, of none", what -> x.span(what), -1, 3);
    }

    /** "A STRANGE KITE is a KIND (1 to 5) and a CELL": 5 times 64, if there is no REPORT. */
    private static void spanOfAll() {
        KiteSummons x = new KiteSummons();
        due.is("31: all", x.span(0), 5 * 64);
        due.is("31: least KIND", x.span(1), 1);
        due.is("31: least CELL", x.span(2), 0);
        for (int i = 0; i < 6; i++) {
            x.report(3 * i, i % 2, 0, 7);
        }
        due.is("31: REPORTS that tell nothing", x.span(0), 5 * 64);
    }

    /** Promise 31: "NONE (of 1, 2): there are none"; how many is 0 then. */
    private static void spanOfNone() {
        KiteSummons x = new KiteSummons();
        x.report(0, 1, 0, 3);
        x.report(0, 1, 4, 7);
        due.is("31: none", x.span(0), 0);
        due.is("31: no KIND", x.span(1), -3);
        due.is("31: no CELL", x.span(2), -3);
    }

    /** KIND 5 and CELL 63, which are tried last. */
    private static void spanOfTheLast() {
        KiteSummons x = new KiteSummons();
        x.wind(0, 10);
        x.wind(1, 10);
        x.report(0, 0, 7, 7);
        x.report(0, 1, 7, 7);
        due.is("31: five at CELL 63", x.span(0), 5);
        due.is("31: the least KIND of CELL 63", x.span(1), 1);
        due.is("31: CELL 63", x.span(2), 63);
        x.report(1, 0, 6, 6);
        due.is("31: heavy, box, old", x.span(0), 3);
        due.is("31: heavy", x.span(1), 2);
        x.report(2, 0, 6, 6);
        due.is("31: old", x.span(0), 1);
        due.is("31: KIND 5", x.span(1), 5);
        due.is("31: CELL 63", x.span(2), 63);
    }

    /** "of that with the least KIND, of these the least CELL": not the least CELL of all. */
    private static void leastKindThenLeastCell() {
        KiteSummons x = new KiteSummons();
        x.wind(0, 8);
        x.report(1, 0, 4, 4);
        due.is("31: red from 0, heavy, box, old from 3, judge from 2", x.span(0), 40);
        due.is("31: red", x.span(1), 1);
        due.is("31: CELL 0", x.span(2), 0);
        x.forget();
        x.report(1, 0, 7, 7);
        due.is("31: red from 3 to 7", x.span(1) * 100 + x.span(2), 103);
        x.forget();
        x.report(1, 0, 1, 3);
        due.is("31: red can't, heavy from 0", x.span(1) * 100 + x.span(2), 200);
        x.report(1, 0, 3, 7);
        due.is("31: heavy from 2", x.span(1) * 100 + x.span(2), 202);
        x.report(0, 0, 0, 1);
        due.is("31: judge from 1", x.span(1) * 100 + x.span(2), 301);
    }

    /** "was behind k GUSTS (0 ..": the CELL at first, whatever WIND 0 is. */
    private static void behindNoGusts() {
        for (int wind = 0; wind < 16; wind++) {
            KiteSummons x = new KiteSummons();
            x.wind(0, wind);
            x.report(0, 0, 5, 5);
            x.report(0, 1, 2, 2);
            due.is("31: CELL at first", x.span(0), 5);
            due.is("31: CELL at first", x.span(2), at(5, 2));
        }
    }

    /** "(.. to 15)": WINDS 0 to 14 have blown then, and WIND 15 not. */
    private static void behind15Gusts() {
        KiteSummons x = Due.still();
        x.wind(14, 12);
        x.wind(15, 14);
        x.report(14, 0, 0, 0);
        x.report(15, 0, 6, 6);
        due.is("31: a red one that went 6 in GUST 14", x.span(0), 8);
        due.is("31: red", x.span(1), 1);
        x.wind(15, 12);
        due.is("31: WIND 15 is nothing to it", x.span(0), 8);
        x.wind(14, 0);
        due.is("31: WIND 14 is", x.span(0), 0);
        x.wind(13, 12);
        x.forget();
        x.report(13, 0, 0, 0);
        x.report(14, 0, 6, 6);
        due.is("31: behind 14 GUSTS", x.span(0), 8);
    }

    /** "ALOFT from GUST 0 on with STRING 9": 6 x more, 3 x less, then no more. */
    private static void stringOf9() {
        KiteSummons x = new KiteSummons();
        int[] place = {0, 6, 3, 3, 3};
        for (int gust = 0; gust < 16; gust++) {
            x.wind(gust, gust == 0 ? 12 : 14);
        }
        x.report(0, 0, 0, 0);
        for (int k = 1; k <= 4; k++) {
            x.report(k, 0, place[k], place[k]);
        }
        due.is("31: red", x.span(0), 8);
        x.report(15, 0, 3, 3);
        due.is("31: no more to the end", x.span(0), 8);
        due.is("31: red", x.span(1), 1);
        KiteSummons y = new KiteSummons();
        for (int gust = 0; gust < 16; gust++) {
            y.wind(gust, 4 + gust % 2 * 2);
        }
        y.report(0, 0, 0, 0);
        y.report(1, 0, 1, 1);
        y.report(8, 0, 0, 0);
        y.report(9, 0, 1, 1);
        y.report(15, 0, 1, 1);
        due.is("31: a box went 9 times to and fro (a judge and an old one go on)", y.span(0), 8);
        due.is("31: box", y.span(1), 4);
    }

    /** "and not off THE MOOR": a strange KITE, too. */
    private static void strangeAtTheEdge() {
        int[] edge = {7, 7, 0, 0};
        for (int way = 0; way < 4; way++) {
            KiteSummons x = new KiteSummons();
            x.wind(0, 12 + way);
            x.wind(1, 4 + (way + 2) % 4);
            x.report(0, way % 2, edge[way], edge[way]);
            x.report(1, way % 2, edge[way], edge[way]);
            due.is("31: all stay at the edge", x.span(0), 40);
            x.report(2, way % 2, edge[way] == 7 ? 5 : 2, edge[way] == 7 ? 5 : 2);
            due.is("31: red goes 2 back, STRING was kept", x.span(0), 8);
            due.is("31: red", x.span(1), 1);
        }
    }

    /** By FORCE 0 only a judge goes, in even GUSTS. */
    private static void strangeByForce0() {
        KiteSummons x = Due.still();
        x.report(0, 0, 0, 0);
        x.report(1, 0, 1, 1);
        due.is("31: a judge", x.span(0), 8);
        due.is("31: a judge", x.span(1), 3);
        x.report(2, 0, 1, 1);
        x.report(3, 0, 2, 2);
        due.is("31: not in odd GUSTS", x.span(0), 8);
        x.report(13, 0, 7, 7);
        due.is("31: 7 times to the edge", x.span(0), 8);
        x.report(12, 0, 7, 7);
        due.is("31: not ahead of that", x.span(0), 0);
    }

    /** "from LEAST to MOST": both are in it, what is beside them not. */
    private static void leastAndMost() {
        for (int least = 0; least <= 7; least++) {
            for (int most = least; most <= 7; most++) {
                KiteSummons x = new KiteSummons();
                x.report(0, 1, least, most);
                due.is("31: from " + least + " to " + most, x.span(0), 40 * (most - least + 1));
                due.is("31: the least CELL", x.span(2), 8 * least);
            }
        }
    }

    /** "by WINDS as they are": neither GUST nor END count. */
    private static void strangeKnowNoEnd() {
        KiteSummons x = Due.still();
        x.wind(14, 12);
        x.report(14, 0, 0, 0);
        x.report(15, 0, 6, 6);
        x.ends(1);
        due.is("31: END 1", x.span(0), 8);
        x.gust();
        due.is("31: OVER", x.span(0), 8);
        x.ends(16);
        due.is("31: END 16", x.span(0), 8);
    }

    /** Promise 32: "NONE: some FIT": without REPORTS all do. */
    private static void liarOfNone() {
        KiteSummons x = new KiteSummons();
        due.is("32: no REPORTS", x.liar(), -3);
    }

    /** Promise 32: "NONE: some FIT": one is enough. */
    private static void liarWhereSomeFit() {
        KiteSummons x = new KiteSummons();
        x.wind(0, 10);
        x.wind(1, 10);
        x.report(0, 0, 7, 7);
        x.report(0, 1, 7, 7);
        x.report(1, 0, 6, 6);
        x.report(2, 0, 6, 6);
        due.is("31: but one FITS", x.span(0), 1);
        due.is("32: but one FITS", x.liar(), -3);
    }

    /** A REPORT that none FITS by itself. */
    private static void liarOfOne() {
        KiteSummons x = new KiteSummons();
        x.wind(0, 14);
        x.report(1, 0, 7, 7);
        due.is("31: all drift from there", x.span(0), 0);
        due.is("32: that one", x.liar(), 0);
    }

    /** "the least REPORT but for which some would". */
    private static void liarLeast() {
        KiteSummons x = new KiteSummons();
        x.report(0, 0, 1, 1);
        x.report(0, 0, 2, 2);
        due.is("32: the least of two", x.liar(), 0);
        x.report(0, 0, 2, 2);
        due.is("32: the first", x.liar(), 0);
        x.forget();
        x.report(0, 0, 1, 1);
        x.report(0, 0, 1, 2);
        x.report(0, 0, 2, 2);
        x.report(0, 0, 2, 2);
        due.is("32: the first", x.liar(), 0);
        x.forget();
        x.report(0, 0, 1, 2);
        x.report(0, 0, 1, 1);
        x.report(0, 0, 2, 2);
        due.is("32: not the first", x.liar(), 1);
    }

    /** The sixth REPORT is the LIAR. */
    private static void liarLast() {
        KiteSummons x = new KiteSummons();
        for (int i = 0; i < 5; i++) {
            x.report(0, 1, 3, 3);
        }
        due.is("32: some FIT", x.liar(), -3);
        x.report(0, 1, 4, 4);
        due.is("32: the last", x.liar(), 5);
        due.is("32: REPORTS stay", x.many(3), 6);
    }

    /** Promise 32: "or there is no such REPORT": two are wrong. */
    private static void liarOfNoOne() {
        KiteSummons x = new KiteSummons();
        x.report(0, 0, 1, 1);
        x.report(0, 0, 2, 2);
        x.report(0, 0, 3, 3);
        due.is("32: no one alone", x.liar(), -3);
        x.forget();
        x.report(0, 0, 1, 1);
        x.report(0, 0, 1, 1);
        x.report(0, 0, 2, 2);
        x.report(0, 0, 2, 2);
        due.is("32: no one alone", x.liar(), -3);
    }

    /** Promise 33: "z becomes v: what it was": any int; 1 at first. */
    private static void seedAny() {
        KiteSummons x = new KiteSummons();
        int was = 1;
        for (int v : new int[] {0, -1, MIN, MAX, 1, 65535, 65536}) {
            due.is("33: what it was", x.seed(v), was);
            was = v;
        }
        due.is("33: the last", x.seed(0), 65536);
    }

    /** "z (an int ..) becomes z * 1103515245 + 12345": it wraps. */
    private static void lotWraps() {
        for (int z : new int[] {0, 1, 2, 3, -1, MIN, MAX, 65536, -12345, 1103515245}) {
            KiteSummons x = new KiteSummons();
            x.seed(z);
            x.lot();
            due.is("34: behind " + z, x.seed(0), next(z));
        }
        KiteSummons x = new KiteSummons();
        x.lot();
        due.is("34: behind 1", x.seed(0), 1103527590);
        x.lot();
        due.is("34: behind 0", x.seed(MAX), 12345);
        x.seed(before(MIN));
        x.lot();
        due.is("34: to the least int", x.seed(before(MAX)), MIN);
        x.lot();
        due.is("34: to the greatest int", x.seed(0), MAX);
    }

    /** "what z >>> 16 leaves by how many KITES there are and 1": 0 to 65535, of a z below 0, too. */
    private static void lotLeaves() {
        int[] tops = {0, 1, 2, 5, 6, 7, 32766, 32767, 32768, 32769, 65528, 65534, 65535};
        for (int kites = 1; kites <= 6; kites++) {
            for (int top : tops) {
                for (int low = 0; low <= 65535; low += 65535) {
                    KiteSummons x = Due.still();
                    for (int k = 0; k < kites; k++) {
                        x.kite(1, 0, 0, 0);
                    }
                    x.seed(before(top << 16 | low));
                    int act = top % (kites + 1);
                    due.is("34: " + top + " by " + (kites + 1), x.lot(), act == 0 ? 0 : 15);
                    due.is("34: that one", x.state(5), act == 0 ? 0 : 1 << act - 1);
                }
            }
        }
    }

    /** Without KITES there is but ACT 0. */
    private static void lotWithoutKites() {
        KiteSummons x = new KiteSummons();
        for (int gust = 0; gust < 12; gust++) {
            due.is("34: no KITES", x.lot(), 0);
            due.is("34: GUST is 1 more", x.state(0), gust + 1);
        }
        due.is("34: OVER", x.lot(), -4);
        due.is("35: no KITES", x.times(40, 0), 40);
    }

    /** Promise 34: "STATE: it is OVER": z stays then, as all does. */
    private static void lotWhenOver() {
        KiteSummons x = Due.still();
        x.kite(1, 0, 0, 0);
        x.ends(1);
        x.seed(before(1 << 16));
        due.is("34: the last GUST", x.lot(), 15);
        due.is("34: OVER", x.lot(), -4);
        due.is("34: z stays", x.seed(before(1 << 16)), 1 << 16);
        due.is("34: GUST stays", x.state(0), 1);
        due.is("34: SCORE stays", x.state(2), 15);
        x.ends(2);
        due.is("34: not OVER", x.lot(), 0);
    }

    /** Promise 35: "n (1 to 40)", "v (0 to 999)"; "BAD". */
    private static void timesBounds() {
        KiteSummons x = Due.county();
        due.bad("35: n", n -> x.times(n, 0), -1, 0, 41);
        for (int v : new int[] {MIN, -65536, -1, 1000, 1001, 65536, 1 << 30, MAX}) {
            due.is("35: v of " + v, x.times(1, v), -1);
            due.is("35: n, and v of " + v, x.times(0, v), -1);
        }
        due.is("35: least n", x.times(1, 0), 1);
        due.is("35: most n", x.times(40, 0), 40);
        due.is("35: most v", x.times(40, 999), 0);
    }

    /** "are WORTH v or more": as much, and one more. */
    private static void timesOrMore() {
        KiteSummons x = Due.still();
        x.kite(1, 0, 0, 0);
        x.ends(1);
        x.seed(before(1 << 16));
        due.is("35: WORTH 15, v 14", x.times(1, 14), 1);
        due.is("35: WORTH 15, v 15", x.times(1, 15), 1);
        due.is("35: WORTH 15, v 16", x.times(1, 16), 0);
        x.seed(before(0));
        due.is("35: WORTH 0, v 0", x.times(1, 0), 1);
        due.is("35: WORTH 0, v 1", x.times(1, 1), 0);
    }

    /** "(z goes on from one to the next)", "(all is as it was in the end, z, too)". */
    private static void timesZGoesOn() {
        KiteSummons x = Due.still();
        x.kite(1, 0, 0, 0);
        x.ends(1);
        for (int seed : new int[] {1, 0, -1, MIN, MAX, 77}) {
            x.seed(seed);
            int z = seed;
            int reached = 0;
            for (int n = 1; n <= 40; n++) {
                z = next(z);
                reached += (z >>> 16) % 2;
                due.is("35: of " + n, x.times(n, 15), reached);
            }
            due.is("35: z is as it was", x.seed(1), seed);
        }
        due.is("35: GUST is as it was", x.state(0), 0);
        due.is("35: SCORE is as it was", x.state(2), 0);
        due.is("35: ALOFT as it was", x.state(4), 1);
    }

    /** When it is OVER there are no GUSTS yet, and each time they are WORTH 0. */
    private static void timesWhenOver() {
        KiteSummons x = Due.still();
        x.kite(1, 0, 0, 0);
        x.ends(1);
        x.gust();
        due.is("35: OVER, 0", x.times(40, 0), 40);
        due.is("35: OVER, 1", x.times(40, 1), 0);
        due.is("35: OVER, SCORE counts nothing", x.times(1, 15), 0);
        due.bad("35: BAD also then", n -> x.times(n, 0), -1, 0, 41);
    }

    /** "all GUSTS yet by LOT, each from how it is now": 16 of them, and 1. */
    private static void timesOfAllGusts() {
        for (int first = 0; first <= 15; first += 5) {
            KiteSummons x = Due.still();
            x.ends(16);
            for (int gust = 0; gust < first; gust++) {
                x.gust();
            }
            x.kite(4, 0, 0, 0);
            Due.told(x, "kite if gust < 15 hold;");
            int z = 5;
            x.seed(z);
            int reached = 0;
            for (int time = 0; time < 10; time++) {
                for (int gust = first; gust < 16; gust++) {
                    z = next(z);
                }
                reached += (z >>> 16) % 2;
                due.is("35: told in GUST 15", x.times(time + 1, 12), reached);
            }
        }
    }

    /** "all GUSTS yet .. are WORTH v or more": together; of one box KITE and one red one, told in two GUSTS. */
    private static void timesOfGustsTogether() {
        KiteSummons x = Due.still();
        x.kite(4, 0, 0, 0);
        x.kite(1, 0, 0, 0);
        x.ends(2);
        for (int seed = 0; seed < 30; seed++) {
            x.seed(seed);
            int first = (next(seed) >>> 16) % 3;
            int second = (next(next(seed)) >>> 16) % 3;
            int served = (first == 0 ? 0 : first) | (second == 0 ? 0 : second);
            int worth = (served & 1) * 12 + (served >> 1) * 15;
            due.is("35: WORTH " + worth, x.times(1, worth), 1);
            due.is("35: not more than " + worth, x.times(1, worth + 1), 0);
        }
    }
}
