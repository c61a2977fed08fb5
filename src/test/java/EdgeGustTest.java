/** The sentences of THE REST, and of promises 14 to 21, that name a boundary; each is quoted at its test. */
public final class EdgeGustTest {
    private static final Due due = new Due();

    public static void main(String[] args) {
        leastInReach();
        noneInReach();
        reachOfTheRest();
        gustWhenOver();
        onBounds();
        onFewer();
        onWhenOver();
        whenBounds();
        whenItLies();
        whenNever();
        whenInTheLastGust();
        stringForBounds();
        stringForLeast();
        stringForMost();
        stringForOfNoUse();
        nameForBounds();
        nameForLast();
        nameForLeast();
        nameForOfNoUse();
        overBounds();
        overBehindTheDrift();
        overInTheLastGust();
        overNoneTold();
        overAloft();
        casesBounds();
        oneApartAtMost();
        edgesDontMeet();
        caseOfWhoLies();
        casesOfSix();
        circuitBounds();
        circuitOfNone();
        circuitOfOne();
        circuitOfSix();
        circuitFirst();
        due.end("EdgeGustTest");
    }

    private static int at(int x, int y) {
        return x + 8 * y;
    }

    /** "the least KITE ALOFT being told": not the nearest, and not one that lies. */
    private static void leastInReach() {
        KiteSummons x = Due.still();
        x.kite(1, at(3, 0), 0, 0);
        x.kite(1, 0, 0, 0);
        x.kite(1, 0, 0, 0);
        x.change(1, 4, 0);
        due.is("T3: the least", x.gust(), 6 + 6);
        due.is("T3: that", x.state(5), 1);
        due.is("T3: not who lies", x.gust(), 6 + 9);
        due.is("T3: that", x.state(5), 5);
    }

    /** "(none, if there is none)": no KITES, none ALOFT, none in reach. */
    private static void noneInReach() {
        KiteSummons x = Due.still();
        due.is("T3: no KITES", x.gust(), 0);
        x.kite(1, 0, 0, 0);
        x.change(0, 4, 0);
        due.is("T3: none ALOFT", x.gust(), 0);
        x.change(0, 4, 1);
        x.change(0, 1, at(4, 0));
        due.is("T3: none in reach", x.gust(), 0);
        due.is("T3: it is ALOFT yet", x.state(4), 1);
        x.change(0, 1, at(3, 0));
        due.is("T3: in reach", x.gust(), 12);
        due.is("T3: four GUSTS", x.state(0), 4);
    }

    /** "FAR from its FARM no more than that COMES": as far, and one more, behind (1); each by its own FARM. */
    private static void reachOfTheRest() {
        KiteSummons x = new KiteSummons();
        x.farm(0, 0, at(7, 0));
        x.farm(0, 1, 4);
        x.kite(4, 0, 9, 0);
        due.is("T3: FAR 6 behind (1)", x.gust(), 0);
        due.is("T3: FAR 5 behind (1)", x.gust(), 0);
        due.is("T3: FAR 4 behind (1)", x.gust(), 3 + 5);
        KiteSummons y = Due.still();
        y.farm(0, 1, 0);
        y.farm(1, 1, 14);
        y.kite(4, at(0, 1), 0, 0);
        y.kite(4, 63, 0, 1);
        due.is("T3: that whose FARM COMES so far", y.gust(), 3);
        due.is("T3: that", y.state(5), 2);
        y.farm(0, 1, 1);
        due.is("T3: now it COMES so far", y.gust(), 3 + 8);
    }

    /** Promise 14: "STATE: it is OVER": in the last GUST not yet. */
    private static void gustWhenOver() {
        KiteSummons x = Due.still();
        x.ends(1);
        x.kite(1, 0, 0, 0);
        due.is("14: the last GUST", x.gust(), 15);
        due.is("14: OVER", x.gust(), -4);
        due.is("14: GUST stays", x.state(0), 1);
        due.is("14: SCORE stays", x.state(2), 15);
        x.ends(16);
        for (int gust = 1; gust < 16; gust++) {
            due.is("14: GUST " + gust, x.gust(), 0);
        }
        due.is("14: OVER", x.gust(), -4);
        due.is("14: GUST stays", x.state(0), 16);
    }

    /** Promise 15: "n (0 to 16)"; "BAD". */
    private static void onBounds() {
        KiteSummons x = Due.county();
        due.bad("15: n", n -> x.on(n), -1, 17);
        due.is("15: 0", x.on(0), 0);
        due.is("15: 1", x.on(1), 15);
        KiteSummons none = new KiteSummons();
        due.is("15: 0 of nothing", none.on(0), 0);
        due.is("15: 16 of nothing", none.on(16), 0);
    }

    /** Promise 15: "(fewer, if it is OVER)": 6 KITES served one a GUST. */
    private static void onFewer() {
        KiteSummons x = Due.still();
        for (int k = 0; k < 6; k++) {
            x.kite(4, 0, 0, 0);
        }
        for (int n = 0; n <= 16; n++) {
            due.is("15: of " + n, x.on(n), 12 * Math.min(n, 6));
        }
        for (int end = 1; end <= 5; end++) {
            x.ends(end);
            for (int n = 0; n <= 16; n++) {
                due.is("15: of " + n + ", END " + end, x.on(n), 12 * Math.min(n, end));
            }
        }
        KiteSummons last = Due.still();
        last.ends(16);
        last.kite(4, 0, 0, 0);
        Due.told(last, "kite if gust < 15 hold;");
        due.is("15: all 16", last.on(16), 12);
        due.is("15: all but GUST 15", last.on(15), 0);
    }

    /** Promise 15, when it is OVER already: there are none. */
    private static void onWhenOver() {
        KiteSummons x = Due.still();
        x.ends(1);
        x.gust();
        x.kite(4, 0, 0, 0);
        due.is("15: OVER", x.on(16), 0);
        due.is("15: OVER", x.on(0), 0);
        due.bad("15: BAD also then", n -> x.on(n), -1, 17);
    }

    /** Promise 16: "BAD". */
    private static void whenBounds() {
        KiteSummons none = new KiteSummons();
        due.bad("16: of no KITES", k -> none.when(k), -1, 0);
        KiteSummons x = Due.county();
        due.bad("16: KITE", k -> x.when(k), -1, 4, 5, 6);
        x.kite(1, 0, 0, 0);
        x.kite(1, 19, 0, 0);
        due.is("16: KITE 5, behind KITES 0, 1 and 3", x.when(5), 3);
        due.bad("16: KITE", k -> x.when(k), -1, 6);
    }

    /** Promise 16: "NONE (also if it does now)": BAD ahead of it. */
    private static void whenItLies() {
        KiteSummons x = Due.still();
        x.kite(1, 0, 0, 0);
        due.is("16: in GUST 0", x.when(0), 0);
        x.change(0, 4, 0);
        due.is("16: it lies now", x.when(0), -3);
        due.bad("16: no such KITE", k -> x.when(k), -1, 1);
    }

    /** Promise 16: "NONE": out of reach, held, OVER. */
    private static void whenNever() {
        KiteSummons x = Due.still();
        x.kite(1, at(4, 0), 0, 0);
        due.is("16: out of reach", x.when(0), -3);
        x.change(0, 1, at(3, 0));
        due.is("16: in reach", x.when(0), 0);
        Due.told(x, "kite hold;");
        due.is("16: held", x.when(0), -3);
        Due.told(x, "kite cut;");
        due.is("16: cut", x.when(0), 0);
        x.ends(1);
        x.change(0, 1, 63);
        x.gust();
        x.change(0, 1, 0);
        due.is("16: OVER", x.when(0), -3);
        x.ends(2);
        due.is("16: in GUST 1", x.when(0), 1);
    }

    /** Promise 16: "The first GUST of THE REST": the last one of it, too, and not one behind END. */
    private static void whenInTheLastGust() {
        KiteSummons x = Due.still();
        for (int k = 0; k < 6; k++) {
            x.kite(4, 0, 0, 0);
        }
        x.ends(6);
        for (int k = 0; k < 6; k++) {
            due.is("16: one a GUST", x.when(k), k);
        }
        x.ends(5);
        due.is("16: in the last GUST", x.when(4), 4);
        due.is("16: behind END", x.when(5), -3);
        KiteSummons y = Due.still();
        y.kite(1, 0, 0, 0);
        Due.told(y, "kite if gust < 15 hold;");
        y.ends(15);
        due.is("16: held to the end", y.when(0), -3);
        y.ends(16);
        due.is("16: in GUST 15", y.when(0), 15);
    }

    /** Promise 17: "BAD". */
    private static void stringForBounds() {
        KiteSummons none = new KiteSummons();
        due.bad("17: of no KITES", k -> none.stringFor(k), -1, 0);
        KiteSummons x = Due.county();
        due.bad("17: KITE", k -> x.stringFor(k), -1, 4, 6);
        x.kite(1, 63, 0, 0);
        x.kite(1, at(2, 2), 0, 0);
        due.is("17: KITE 5, one CELL ahead of its FARM", x.stringFor(5), 1);
        due.bad("17: KITE", k -> x.stringFor(k), -1, 6);
    }

    /** Promise 17: "of several the least": 3 to 9 come as far. */
    private static void stringForLeast() {
        KiteSummons x = new KiteSummons();
        x.farm(0, 0, at(7, 0));
        x.farm(0, 1, 0);
        for (int from = 0; from <= 7; from++) {
            x.kite(1, at(from, 0), 9, 0);
            due.is("17: from " + from, x.stringFor(0), 7 - from);
            x = new KiteSummons();
            x.farm(0, 0, at(7, 0));
            x.farm(0, 1, 0);
        }
    }

    /** Promise 17: a STRING of 9 is tried, too: 7 x more, then 2 y more, at last. */
    private static void stringForMost() {
        KiteSummons x = new KiteSummons();
        x.farm(0, 0, at(7, 2));
        x.farm(0, 1, 0);
        x.wind(0, 12);
        x.wind(2, 13);
        x.kite(1, 0, 0, 0);
        due.is("17: all of 9", x.stringFor(0), 9);
        x.farm(0, 0, at(7, 1));
        due.is("17: 8 of it", x.stringFor(0), 8);
        x.ends(2);
        due.is("17: of no use any more", x.stringFor(0), 0);
    }

    /** Promise 17: where none is WORTH more, 0: it lies, it is out of reach, it is OVER. */
    private static void stringForOfNoUse() {
        KiteSummons x = new KiteSummons();
        x.kite(1, 0, 9, 0);
        x.kite(1, 63, 9, 0);
        x.farm(0, 0, at(3, 0));
        due.is("17: it could", x.stringFor(0), 2);
        due.is("17: out of reach", x.stringFor(1), 0);
        x.change(0, 4, 0);
        due.is("17: it lies", x.stringFor(0), 0);
        x.change(0, 4, 1);
        x.ends(1);
        x.change(0, 1, 63);
        x.gust();
        x.change(0, 1, 0);
        due.is("17: OVER", x.stringFor(0), 0);
        x.ends(2);
        due.is("17: not OVER", x.stringFor(0), 2);
    }

    /** Promise 18: "BAD". */
    private static void nameForBounds() {
        KiteSummons none = new KiteSummons();
        due.bad("18: of no KITES", k -> none.nameFor(k), -1, 0);
        KiteSummons x = Due.county();
        due.bad("18: KITE", k -> x.nameFor(k), -1, 4, 6);
        x.kite(1, 0, 0, 0);
        x.kite(1, 63, 0, 0);
        due.is("18: KITE 5, at FARM 2", x.nameFor(5), 2);
        due.bad("18: KITE", k -> x.nameFor(k), -1, 6);
    }

    /** Promise 18: NAMES 0 and 5 are tried, too. */
    private static void nameForLast() {
        for (int best = 0; best <= 5; best++) {
            KiteSummons x = Due.still();
            for (int f = 0; f < 6; f++) {
                x.farm(f, 0, f == best ? at(4, 4) : at(3, 4));
            }
            x.kite(1, at(4, 4), 0, 3);
            due.is("18: the best NAME", x.nameFor(0), best);
        }
    }

    /** Promise 18: "likewise": of several the least. */
    private static void nameForLeast() {
        KiteSummons x = Due.still();
        x.kite(1, 0, 0, 5);
        due.is("18: all are as good", x.nameFor(0), 0);
        x.farm(0, 0, 1);
        due.is("18: five are as good", x.nameFor(0), 1);
        x.farm(1, 0, 8);
        x.farm(2, 0, 8);
        x.farm(3, 0, 8);
        due.is("18: two are as good", x.nameFor(0), 4);
        due.is("18: its NAME stays", x.kiteOf(0, 3), 5);
    }

    /** Promise 18: where none is WORTH more, 0: it lies, it is OVER. */
    private static void nameForOfNoUse() {
        KiteSummons x = Due.still();
        for (int f = 0; f < 5; f++) {
            x.farm(f, 0, 63);
        }
        x.kite(1, 0, 0, 4);
        due.is("18: but one is of use", x.nameFor(0), 5);
        x.change(0, 4, 0);
        due.is("18: it lies", x.nameFor(0), 0);
        x.change(0, 4, 1);
        x.ends(1);
        x.gust();
        due.is("18: OVER", x.nameFor(0), 0);
        x.ends(2);
        due.is("18: not OVER", x.nameFor(0), 5);
        x.farm(5, 0, 63);
        due.is("18: none is of use", x.nameFor(0), 0);
        due.is("18: its NAME stays", x.kiteOf(0, 3), 4);
    }

    /** Promise 19: "OVER of a CELL. BAD; NONE". */
    private static void overBounds() {
        KiteSummons x = Due.still();
        due.bad("19: CELL", cell -> x.over(cell), -1, 64);
        due.is("19: no KITES", x.over(0), -3);
        due.is("19: no KITES", x.over(63), -3);
        x.kite(1, 0, 0, 0);
        x.kite(1, 63, 0, 0);
        due.is("19: CELL 0", x.over(0), 0);
        due.is("19: CELL 63", x.over(63), 0);
        due.is("19: none comes there", x.over(1), -3);
        due.bad("19: CELL", cell -> x.over(cell), -1, 64);
    }

    /** "the first GUST behind (1) of which a KITE is AT it": where it is now counts nothing. */
    private static void overBehindTheDrift() {
        KiteSummons x = new KiteSummons();
        x.kite(4, 0, 3, 0);
        due.is("19: where it is now", x.over(0), -3);
        for (int cell = 1; cell <= 3; cell++) {
            due.is("19: CELL " + cell, x.over(cell), cell - 1);
        }
        due.is("19: farther than its STRING", x.over(4), -3);
        x.change(0, 2, 0);
        due.is("19: where it stays", x.over(0), 0);
    }

    /** "(in) THE REST: all GUSTS yet": the last one, too; none, when it is OVER. */
    private static void overInTheLastGust() {
        KiteSummons x = new KiteSummons();
        x.kite(4, 0, 9, 0);
        x.ends(4);
        due.is("19: in the last GUST", x.over(4), 3);
        due.is("19: behind END", x.over(5), -3);
        x.gust();
        due.is("19: by the number of the GUST", x.over(4), -3);
        x.change(0, 4, 1);
        due.is("19: by the number of the GUST", x.over(4), 3);
        x.gust();
        x.change(0, 4, 1);
        x.gust();
        x.change(0, 4, 1);
        due.is("19: but one is left", x.over(4), 3);
        x.gust();
        x.change(0, 4, 1);
        due.is("19: it is there, but it is OVER", x.over(4), -3);
        KiteSummons y = Due.still();
        y.ends(16);
        y.wind(15, 4);
        y.kite(4, 0, 9, 0);
        due.is("19: in GUST 15", y.over(1), 15);
        y.ends(15);
        due.is("19: not in GUST 15", y.over(1), -3);
    }

    /** "were none told in THE REST": who would be SERVED at once goes on, whatever THE RULES are. */
    private static void overNoneTold() {
        KiteSummons x = new KiteSummons();
        x.kite(4, 0, 9, 0);
        x.farm(0, 1, 14);
        Due.told(x, "kite cut;");
        due.is("19: it would lie in GUST 0", x.when(0), 0);
        due.is("19: none is told", x.over(7), 6);
    }

    /** "a KITE is AT it ALOFT": who lies is over none. */
    private static void overAloft() {
        KiteSummons x = Due.still();
        x.kite(4, 9, 0, 0);
        x.change(0, 4, 0);
        due.is("19: who lies", x.over(9), -3);
        x.kite(4, 9, 0, 0);
        due.is("19: another one", x.over(9), 0);
    }

    /** Promise 20: "what -1 how many, 0 .. 5 KITES of that KITE's CASE"; "BAD: also no such KITE". */
    private static void casesBounds() {
        KiteSummons x = Due.still();
        due.bad("20: of no KITES", what -> x.cases(what), -2, 0, 1, 5, 6);
        due.is("20: none", x.cases(-1), 0);
        for (int k = 0; k < 6; k++) {
            x.kite(4, at(k, 0), 0, 0);
            int all = k;
            due.bad("20: no such KITE", what -> x.cases(what), -2, all + 1, 6);
            due.is("20: all hang together", x.cases(k), (2 << k) - 1);
            due.is("20: one CASE", x.cases(-1), 1);
        }
    }

    /** "whose x, and whose y are 1 apart at most": 0, 1, 2 of each. */
    private static void oneApartAtMost() {
        for (int dx = -2; dx <= 2; dx++) {
            for (int dy = -2; dy <= 2; dy++) {
                KiteSummons x = new KiteSummons();
                x.kite(4, at(3, 3), 0, 0);
                x.kite(4, at(3 + dx, 3 + dy), 0, 0);
                boolean isTangled = Math.abs(dx) <= 1 && Math.abs(dy) <= 1;
                due.is("20: CASES, " + dx + " and " + dy + " apart", x.cases(-1), isTangled ? 1 : 2);
                due.is("20: CASE of the one", x.cases(0), isTangled ? 3 : 1);
                due.is("20: CASE of the other", x.cases(1), isTangled ? 3 : 2);
            }
        }
    }

    /** The rows of THE MOOR don't go on one behind the other: CELL 7 is far from CELL 8, and CELL 0 from CELL 63. */
    private static void edgesDontMeet() {
        int[][] pairs = {{7, 8}, {8, 7}, {15, 16}, {7, 16}, {0, 15}, {0, 63}, {0, 56}, {7, 63}, {55, 56}, {0, 7}};
        for (int[] pair : pairs) {
            KiteSummons x = new KiteSummons();
            x.kite(4, pair[0], 0, 0);
            x.kite(4, pair[1], 0, 0);
            due.is("20: CELLS " + pair[0] + " and " + pair[1], x.cases(-1), 2);
        }
        int[][] near = {{7, 15}, {7, 14}, {0, 9}, {63, 54}, {56, 49}, {62, 63}};
        for (int[] pair : near) {
            KiteSummons x = new KiteSummons();
            x.kite(4, pair[0], 0, 0);
            x.kite(4, pair[1], 0, 0);
            due.is("20: CELLS " + pair[0] + " and " + pair[1], x.cases(-1), 1);
        }
    }

    /** Promise 20: "(0: it isn't ALOFT)"; a CASE is of "all KITES ALOFT". */
    private static void caseOfWhoLies() {
        KiteSummons x = new KiteSummons();
        x.kite(4, 0, 0, 0);
        x.change(0, 4, 0);
        due.is("20: it isn't ALOFT", x.cases(0), 0);
        due.is("20: no CASE", x.cases(-1), 0);
        x.kite(4, 0, 0, 0);
        due.is("20: by itself", x.cases(1), 2);
        due.is("20: one CASE", x.cases(-1), 1);
        x.change(0, 4, 1);
        due.is("20: both", x.cases(1), 3);
    }

    /** "that hang together so, one by the other": six in any order, six by themselves. */
    private static void casesOfSix() {
        int[] row = {at(5, 5), at(0, 0), at(4, 4), at(1, 1), at(3, 3), at(2, 2)};
        KiteSummons x = new KiteSummons();
        for (int cell : row) {
            x.kite(4, cell, 0, 0);
        }
        due.is("20: one CASE of six", x.cases(-1), 1);
        for (int k = 0; k < 6; k++) {
            due.is("20: all six", x.cases(k), 63);
        }
        x.change(4, 4, 0);
        due.is("20: parted", x.cases(-1), 2);
        due.is("20: those with more", x.cases(0), 5);
        due.is("20: those with less", x.cases(3), 2 + 8 + 32);
        KiteSummons y = new KiteSummons();
        int[] apart = {at(0, 0), at(2, 0), at(4, 0), at(0, 2), at(2, 2), at(4, 2)};
        for (int cell : apart) {
            y.kite(4, cell, 0, 0);
        }
        due.is("20: six CASES", y.cases(-1), 6);
        due.is("20: the last one", y.cases(5), 32);
    }

    /** Promise 21: "what 0 how many steps, 1 the first KITE. BAD". */
    private static void circuitBounds() {
        KiteSummons x = new KiteSummons();
        for (int what = 0; what <= 1; what++) {
            int w = what;
            due.bad("21: CELL", cell -> x.circuit(cell, w), -1, 64);
        }
        due.bad("21: what", what -> x.circuit(0, what), -1, 2);
        due.bad("21: what", what -> x.circuit(63, what), -1, 2);
        x.kite(1, 63, 0, 0);
        x.change(0, 4, 0);
        due.bad("21: what", what -> x.circuit(0, what), -1, 2);
        due.is("21: from CELL 0", x.circuit(0, 0), 14);
        due.is("21: from CELL 63", x.circuit(63, 0), 0);
    }

    /** Promise 21: "NONE (what 1): none lies"; then there are no steps. */
    private static void circuitOfNone() {
        KiteSummons x = new KiteSummons();
        due.is("21: no KITES, steps", x.circuit(5, 0), 0);
        due.is("21: no KITES, the first", x.circuit(5, 1), -3);
        x.kite(1, 63, 0, 0);
        due.is("21: none lies, steps", x.circuit(5, 0), 0);
        due.is("21: none lies, the first", x.circuit(5, 1), -3);
    }

    /** One that lies: the last of six, far off, and right there. */
    private static void circuitOfOne() {
        KiteSummons x = new KiteSummons();
        for (int k = 0; k < 6; k++) {
            x.kite(1, at(k, 7), 0, 0);
        }
        x.change(5, 4, 0);
        due.is("21: steps", x.circuit(0, 0), 12);
        due.is("21: KITE 5", x.circuit(0, 1), 5);
        due.is("21: right there", x.circuit(at(5, 7), 0), 0);
        due.is("21: right there", x.circuit(at(5, 7), 1), 5);
    }

    /** Six that lie: all at one CELL; at corners; in a row. */
    private static void circuitOfSix() {
        int[][] cells = {{9, 9, 9, 9, 9, 9}, {0, 63, 7, 56, 0, 63}, {2, 5, 0, 3, 1, 4}};
        int[] from = {0, 0, 0};
        int[] steps = {2, 21, 5};
        int[] first = {0, 0, 2};
        for (int i = 0; i < 3; i++) {
            KiteSummons x = new KiteSummons();
            for (int k = 0; k < 6; k++) {
                x.kite(1, cells[i][k], 0, 0);
                x.change(k, 4, 0);
            }
            due.is("21: steps of six", x.circuit(from[i], 0), steps[i]);
            due.is("21: the first of six", x.circuit(from[i], 1), first[i]);
        }
    }

    /** "of several rows the FIRST: the least KITE first, where they are unlike first": not the nearest. */
    private static void circuitFirst() {
        KiteSummons x = new KiteSummons();
        x.kite(1, at(5, 0), 0, 0);
        x.kite(1, at(1, 0), 0, 0);
        x.change(0, 4, 0);
        x.change(1, 4, 0);
        due.is("21: both rows are as long", x.circuit(at(3, 0), 0), 6);
        due.is("21: the least first", x.circuit(at(3, 0), 1), 0);
        due.is("21: the other row is shorter", x.circuit(at(2, 0), 1), 1);
        due.is("21: the first row is shorter", x.circuit(at(4, 0), 1), 0);
        x.kite(1, at(3, 0), 0, 0);
        x.change(2, 4, 0);
        due.is("21: one on the way, at no more steps", x.circuit(at(3, 0), 0), 6);
        due.is("21: the least of those that begin no longer row", x.circuit(at(3, 0), 1), 0);
    }
}
