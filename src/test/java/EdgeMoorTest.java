/** The sentences of Terms 1 and of promises 1 to 11 that name a boundary; each is quoted at its test. */
public final class EdgeMoorTest {
    private static final Due due = new Due();
    private static final int MIN = Integer.MIN_VALUE;
    private static final int MAX = Integer.MAX_VALUE;

    public static void main(String[] args) {
        cells();
        far();
        end();
        gustNumbers();
        winds();
        windOfGust15();
        firstWinds();
        farms();
        comes();
        score();
        sixKites();
        atFirst();
        drifts();
        driftOfAJudge();
        fees();
        noMoreThanItsString();
        notOffTheMoor();
        stringIsAsMuchLess();
        onlyAloft();
        toldWhoLies();
        firstRule();
        nineLessFar();
        outOfReach();
        cutAndHold();
        kiteBounds();
        kiteFull();
        kiteOfBounds();
        driftsBehindGust15();
        willWithoutRules();
        changeBounds();
        remakeBounds();
        windBounds();
        farmBounds();
        endsBounds();
        endsBelowGust();
        anewWhenOver();
        anewOfNothing();
        stateBounds();
        windBehindGust15();
        due.end("EdgeMoorTest");
    }

    private static int at(int x, int y) {
        return x + 8 * y;
    }

    /** "CELLS 0 to 63". */
    private static void cells() {
        KiteSummons x = new KiteSummons();
        due.is("T1: a KITE at CELL 0", x.kite(1, 0, 0, 0), 0);
        due.is("T1: a KITE at CELL 63", x.kite(1, 63, 0, 0), 1);
        due.is("T1: none at CELL 64", x.kite(1, 64, 0, 0), -1);
        due.is("T1: none at CELL -1", x.kite(1, -1, 0, 0), -1);
        due.is("T1: AT CELL 0", x.kiteOf(0, 1), 0);
        due.is("T1: AT CELL 63", x.kiteOf(1, 1), 63);
    }

    /** "FAR of two CELLS: how far their x, and their y are apart, together": 0 to 14, whichever is the greater. */
    private static void far() {
        int[][] fars = {{0, 0, 0}, {63, 63, 0}, {0, 63, 14}, {63, 0, 14}, {7, 56, 14}, {56, 7, 14}, {0, 7, 7}, {7, 0, 7},
            {0, 56, 7}, {56, 0, 7}, {7, 8, 8}, {8, 7, 8}, {15, 16, 8}, {0, 1, 1}, {8, 0, 1}};
        KiteSummons x = new KiteSummons();
        x.kite(1, 0, 0, 0);
        for (int[] far : fars) {
            x.change(0, 1, far[0]);
            x.farm(0, 0, far[1]);
            due.is("T1: FAR of " + far[0] + " and " + far[1], x.kiteOf(0, 9), far[2]);
        }
    }

    /** "END is 1 to 16 (12 at first)"; "from END on it is OVER". */
    private static void end() {
        KiteSummons x = new KiteSummons();
        due.is("T1: END at first", x.state(1), 12);
        for (int gust = 0; gust < 12; gust++) {
            due.is("T1: not OVER ahead of GUST " + gust, x.state(3), 0);
            due.is("T1: GUST " + gust, x.gust(), 0);
        }
        due.is("T1: OVER from END on", x.state(3), 1);
        due.is("T1: OVER", x.gust(), -4);
        due.is("T1: END 16", x.ends(16), 12);
        for (int gust = 12; gust < 16; gust++) {
            due.is("T1: not OVER ahead of GUST " + gust, x.state(3), 0);
            due.is("T1: GUST " + gust, x.gust(), 0);
        }
        due.is("T1: OVER behind GUST 15", x.state(3), 1);
        due.is("T1: OVER behind GUST 15", x.gust(), -4);
        due.is("T1: GUST 16 comes, and never does", x.state(0), 16);
        KiteSummons one = new KiteSummons();
        one.ends(1);
        due.is("T1: END 1, GUST 0", one.state(3), 0);
        due.is("T1: END 1, GUST 0", one.gust(), 0);
        due.is("T1: END 1, GUST 1", one.state(3), 1);
    }

    /** "GUST: the one that comes (0 at first)"; "GUST is 1 more", whatever it was WORTH. */
    private static void gustNumbers() {
        KiteSummons x = Due.still();
        due.is("T1: GUST at first", x.state(0), 0);
        x.kite(4, 0, 0, 0);
        x.kite(4, 63, 0, 0);
        Due.told(x, "box if number = 1 hold;");
        int[] acts = {0, 2, 1, 1};
        for (int i = 0; i < 4; i++) {
            Due.goBy(x, acts[i]);
            due.is("T1: GUST is 1 more", x.state(0), i + 1);
        }
    }

    /** Each WIND of one GUST: a red KITE goes twice its FORCE on its WAY. */
    private static void blow(KiteSummons x, int gust, int wind) {
        int force = wind / 4;
        int way = wind % 4;
        int[] from = {at(0, 3), at(3, 0), at(7, 3), at(3, 7)};
        int[] to = {at(2 * force, 3), at(3, 2 * force), at(7 - 2 * force, 3), at(3, 7 - 2 * force)};
        x.farm(0, 0, 63);
        x.farm(0, 1, 0);
        x.kite(1, from[way], 9, 0);
        x.wind(gust, wind);
        due.is("T1: WIND of GUST " + gust, x.state(6), wind);
        due.is("T1: DRIFTS by WIND " + wind, x.kiteOf(0, 6), 2 * force);
        x.gust();
        due.is("T1: WIND " + wind + " in GUST " + gust, x.kiteOf(0, 1), to[way]);
        due.is("T1: STRING by WIND " + wind, x.kiteOf(0, 2), 9 - 2 * force);
    }

    /** "a WIND: 4 times its FORCE (0 to 3), and its WAY (0 x more, 1 y more, 2 x less, 3 y less)". */
    private static void winds() {
        for (int wind = 0; wind < 16; wind++) {
            blow(new KiteSummons(), 0, wind);
        }
    }

    /** "Each of GUSTS 0 to 15 has a WIND": the last one, too. */
    private static void windOfGust15() {
        for (int wind = 0; wind < 16; wind++) {
            KiteSummons x = new KiteSummons();
            x.ends(16);
            for (int gust = 0; gust < 15; gust++) {
                x.gust();
            }
            blow(x, 15, wind);
        }
    }

    /** "4 at first": FORCE 1, x more, in each of GUSTS 0 to 15. */
    private static void firstWinds() {
        KiteSummons x = new KiteSummons();
        for (int gust = 0; gust < 16; gust++) {
            due.is("T1: WIND of GUST " + gust + " at first", x.wind(gust, 15), 4);
        }
        KiteSummons y = new KiteSummons();
        y.ends(16);
        for (int gust = 0; gust < 16; gust++) {
            due.is("T1: WIND of GUST " + gust + " that comes", y.state(6), 4);
            y.gust();
        }
    }

    /** "FARMS 0 to 5, each at a CELL (0 at first), COMES so far (0 to 14; 3 at first)". */
    private static void farms() {
        KiteSummons x = new KiteSummons();
        for (int f = 0; f <= 5; f++) {
            due.is("T1: CELL of FARM " + f, x.farmOf(f, 0), 0);
            due.is("T1: FARM " + f + " COMES", x.farmOf(f, 1), 3);
            due.is("T1: a KITE with NAME " + f, x.kite(1, 63, 0, f), f);
            due.is("T1: FAR from FARM " + f, x.kiteOf(f, 9), 14);
        }
        due.is("T1: no FARM 6", x.farmOf(6, 0), -1);
        due.is("T1: no FARM -1", x.farmOf(-1, 0), -1);
    }

    /** "if FAR from its FARM is no more than that COMES": each FAR by each of COMES, as one is told by an ACT. */
    private static void comes() {
        for (int comes = 0; comes <= 14; comes++) {
            for (int far = 0; far <= 14; far++) {
                KiteSummons x = Due.still();
                x.farm(4, 1, comes);
                x.kite(4, far <= 7 ? far : at(7, far - 7), 0, 4);
                String what = "T1: FAR " + far + ", COMES " + comes;
                boolean isServed = far <= comes;
                due.is(what, Due.goBy(x, 1), isServed ? 3 + (far < 9 ? 9 - far : 0) : 0);
                due.is(what + ", SERVED", x.kiteOf(0, 5), isServed ? 1 : 0);
                due.is(what + ", it lies", x.kiteOf(0, 4), 0);
            }
        }
    }

    /** "SCORE: what GUSTS were WORTH (0 at first)". */
    private static void score() {
        KiteSummons x = Due.still();
        due.is("T1: SCORE at first", x.state(2), 0);
        x.kite(1, 0, 0, 0);
        x.kite(4, 1, 0, 0);
        x.gust();
        due.is("T1: SCORE of one", x.state(2), 15);
        x.gust();
        due.is("T1: SCORE of two", x.state(2), 15 + 11);
        x.gust();
        due.is("T1: SCORE of one WORTH 0 more", x.state(2), 15 + 11);
    }

    /** "KITES, 6 at most, numbered as they come". */
    private static void sixKites() {
        KiteSummons x = new KiteSummons();
        for (int k = 0; k < 6; k++) {
            due.is("T1: how many yet", x.many(0), k);
            due.is("T1: its number", x.kite(1 + k % 5, k, k, k), k);
        }
        due.is("T1: no seventh", x.kite(1, 0, 0, 0), -2);
        due.is("T1: six", x.many(0), 6);
    }

    /** "ALOFT (at first), else it lies; SERVED or not (at first)". */
    private static void atFirst() {
        KiteSummons x = new KiteSummons();
        for (int k = 0; k < 6; k++) {
            x.kite(1, 0, 0, 0);
            due.is("T1: ALOFT at first", x.kiteOf(k, 4), 1);
            due.is("T1: not SERVED at first", x.kiteOf(k, 5), 0);
            x.change(k, 4, 0);
            x.change(k, 5, 1);
        }
        due.is("T1: all lie", x.state(4), 0);
        due.is("T1: all are SERVED", x.state(5), 63);
    }

    /** "heavy: 1 less than a kite (0 at least)", "box: as a kite, but 1 at most", "old: as box, but 0 in odd GUSTS". */
    private static void drifts() {
        KiteSummons x = new KiteSummons();
        for (int kind = 1; kind <= 5; kind++) {
            x.kite(kind, 0, 0, 0);
        }
        int[][] inGust0 = {{0, 0, 1, 0, 0}, {2, 0, 1, 1, 1}, {4, 1, 2, 1, 1}, {6, 2, 3, 1, 1}};
        int[][] inGust1 = {{0, 0, 0, 0, 0}, {2, 0, 0, 1, 0}, {4, 1, 1, 1, 0}, {6, 2, 2, 1, 0}};
        for (int force = 0; force <= 3; force++) {
            for (int k = 0; k < 5; k++) {
                x.wind(0, 4 * force);
                due.is("T1: an even GUST of FORCE " + force, x.kiteOf(k, 6), inGust0[force][k]);
            }
        }
        x.gust();
        for (int force = 0; force <= 3; force++) {
            for (int k = 0; k < 5; k++) {
                x.wind(1, 4 * force);
                due.is("T1: an odd GUST of FORCE " + force, x.kiteOf(k, 6), inGust1[force][k]);
            }
        }
    }

    /** "judge: as heavy, and 1 in even GUSTS": by FORCE 0, too, and on the WAY of that WIND. */
    private static void driftOfAJudge() {
        int[] to = {at(4, 3), at(3, 4), at(2, 3), at(3, 2)};
        for (int way = 0; way < 4; way++) {
            KiteSummons x = new KiteSummons();
            x.farm(0, 0, 63);
            x.farm(0, 1, 0);
            x.wind(0, way);
            x.wind(1, way);
            x.kite(3, at(3, 3), 9, 0);
            x.kite(2, at(3, 3), 9, 0);
            x.gust();
            due.is("T1: a judge by FORCE 0", x.kiteOf(0, 1), to[way]);
            due.is("T1: its STRING", x.kiteOf(0, 2), 8);
            due.is("T1: a heavy one by FORCE 0", x.kiteOf(1, 1), at(3, 3));
            due.is("T1: its STRING", x.kiteOf(1, 2), 9);
            x.gust();
            due.is("T1: a judge by FORCE 0 in an odd GUST", x.kiteOf(0, 1), to[way]);
        }
    }

    /** "heavy: as a kite, and its number", "judge: twice as heavy", "old: half (cut) of box": the least and the most. */
    private static void fees() {
        int[][] fees = {{1, 6, 6}, {2, 4, 9}, {3, 8, 18}, {4, 3, 3}, {5, 1, 1}};
        for (int[] fee : fees) {
            KiteSummons x = Due.still();
            for (int k = 0; k < 6; k++) {
                x.kite(fee[0], 0, 0, 0);
            }
            due.is("T1: FEE of KITE 0 of KIND " + fee[0], x.kiteOf(0, 7), fee[1]);
            due.is("T1: FEE of KITE 5 of KIND " + fee[0], x.kiteOf(5, 7), fee[2]);
            due.is("T1: WORTH it, and 9 less FAR 0", Due.goBy(x, 6), fee[2] + 9);
        }
    }

    /** "no more than its STRING": less, as much, and more than it DRIFTS (6), and none at all. */
    private static void noMoreThanItsString() {
        int[] goes = {0, 1, 2, 3, 4, 5, 6, 6, 6, 6};
        for (int string = 0; string <= 9; string++) {
            KiteSummons x = new KiteSummons();
            x.farm(0, 0, 63);
            x.wind(0, 12);
            x.kite(1, at(0, 0), string, 0);
            x.gust();
            due.is("T1: on " + string + " of STRING", x.kiteOf(0, 1), goes[string]);
            due.is("T1: left of " + string, x.kiteOf(0, 2), string - goes[string]);
        }
    }

    /** "and not off THE MOOR": from each CELL of a row, on each WAY. */
    private static void notOffTheMoor() {
        int[] edge = {7, 7, 0, 0};
        for (int way = 0; way < 4; way++) {
            for (int place = 0; place <= 7; place++) {
                KiteSummons x = new KiteSummons();
                x.farm(0, 0, 63);
                x.farm(0, 1, 0);
                x.wind(0, 12 + way);
                x.kite(1, way % 2 == 0 ? at(place, 4) : at(4, place), 9, 0);
                x.gust();
                int goes = Math.min(6, Math.abs(edge[way] - place));
                int to = edge[way] == 7 ? place + goes : place - goes;
                due.is("T1: from " + place + " on WAY " + way, x.kiteOf(0, 1), way % 2 == 0 ? at(to, 4) : at(4, to));
                due.is("T1: STRING then", x.kiteOf(0, 2), 9 - goes);
            }
        }
    }

    /** "STRING is as much less as it went": not by what it DRIFTS. */
    private static void stringIsAsMuchLess() {
        KiteSummons x = new KiteSummons();
        x.farm(0, 0, 56);
        x.farm(0, 1, 0);
        x.wind(0, 12);
        x.kite(1, at(7, 2), 9, 0);
        x.kite(1, at(5, 2), 9, 0);
        x.kite(1, at(5, 2), 1, 0);
        x.gust();
        due.is("T1: at the edge it keeps all", x.kiteOf(0, 2), 9);
        due.is("T1: two CELLS", x.kiteOf(1, 2), 7);
        due.is("T1: all of it", x.kiteOf(2, 2), 0);
    }

    /** "Each KITE ALOFT goes": one that lies stays, and keeps its STRING. */
    private static void onlyAloft() {
        KiteSummons x = new KiteSummons();
        x.kite(1, at(3, 3), 5, 0);
        x.change(0, 4, 0);
        x.gust();
        due.is("T1: who lies stays", x.kiteOf(0, 1), at(3, 3));
        due.is("T1: and keeps its STRING", x.kiteOf(0, 2), 5);
        x.change(0, 4, 1);
        x.gust();
        due.is("T1: ALOFT it goes", x.kiteOf(0, 1), at(5, 3));
    }

    /** "If a KITE is told, and it is ALOFT": one that lies does nothing, whatever its WILL is. */
    private static void toldWhoLies() {
        String[] texts = {"", "kite cut;", "kite hold;"};
        for (String text : texts) {
            KiteSummons x = Due.still();
            x.kite(1, 0, 0, 0);
            x.change(0, 4, 0);
            Due.told(x, text);
            due.is("T1: told, but it lies", Due.goBy(x, 1), 0);
            due.is("T1: it lies yet", x.kiteOf(0, 4), 0);
            due.is("T1: it isn't SERVED", x.kiteOf(0, 5), 0);
            due.is("T1: SCORE", x.state(2), 0);
            due.is("T1: GUST is 1 more", x.state(0), 1);
        }
    }

    /** "the first of THE RULES whose KIND is its or above it, and whose condition holds, tells it"; "serve (if no RULE tells)". */
    private static void firstRule() {
        String[] texts = {"heavy hold; judge cut;", "judge cut; heavy hold;", "old cut; heavy if 1 = 2 hold; kite cut;",
            "box hold; old hold; red hold;", "", "kite serve; judge cut;"};
        int[] wills = {1, 2, 2, 0, 0, 0};
        for (int i = 0; i < texts.length; i++) {
            KiteSummons x = Due.still();
            x.kite(3, 0, 0, 0);
            Due.told(x, texts[i]);
            due.is("T1: WILL by \"" + texts[i] + "\"", x.kiteOf(0, 8), wills[i]);
            int[] worths = {8 + 9, 0, 1};
            due.is("T1: WORTH by \"" + texts[i] + "\"", x.gust(), worths[wills[i]]);
        }
    }

    /** "and 9 less FAR more (0 at least)". */
    private static void nineLessFar() {
        int[][] worths = {{0, 9}, {1, 8}, {7, 2}, {8, 1}, {9, 0}, {10, 0}, {14, 0}};
        for (int[] worth : worths) {
            KiteSummons x = Due.still();
            x.farm(0, 1, 14);
            x.kite(1, worth[0] <= 7 ? worth[0] : at(7, worth[0] - 7), 0, 0);
            due.is("T1: 9 less FAR " + worth[0], x.gust(), 6 + worth[1]);
        }
    }

    /** "serve: it lies; if FAR .. it is SERVED": out of reach it lies, too, and is WORTH nothing. */
    private static void outOfReach() {
        KiteSummons x = Due.still();
        x.kite(3, at(4, 0), 0, 0);
        due.is("T1: FAR 4, COMES 3", Due.goBy(x, 1), 0);
        due.is("T1: a judge went one CELL less with STRING 0", x.kiteOf(0, 1), at(4, 0));
        due.is("T1: it lies", x.state(4), 0);
        due.is("T1: it isn't SERVED", x.state(5), 0);
        due.is("T1: SCORE", x.state(2), 0);
        KiteSummons y = Due.still();
        y.kite(4, at(4, 0), 0, 0);
        y.change(0, 5, 1);
        Due.goBy(y, 1);
        due.is("T1: who was SERVED is so yet", y.state(5), 1);
    }

    /** "cut: it lies, WORTH 1. hold: nothing": at its FARM, and out of reach. */
    private static void cutAndHold() {
        for (int far = 0; far <= 14; far += 7) {
            KiteSummons cut = Due.still();
            cut.kite(3, far <= 7 ? far : 63, 0, 0);
            Due.told(cut, "kite cut;");
            due.is("T1: cut at FAR " + far, Due.goBy(cut, 1), 1);
            due.is("T1: it lies", cut.state(4), 0);
            due.is("T1: it isn't SERVED", cut.state(5), 0);
            KiteSummons hold = Due.still();
            hold.kite(3, far <= 7 ? far : 63, 0, 0);
            Due.told(hold, "kite hold;");
            due.is("T1: hold at FAR " + far, Due.goBy(hold, 1), 0);
            due.is("T1: it is ALOFT", hold.state(4), 1);
            due.is("T1: it isn't SERVED", hold.state(5), 0);
        }
    }

    /** Promise 2: "A KITE of a KIND 1 to 5"; CELL, STRING and NAME as in Terms 1; "BAD". */
    private static void kiteBounds() {
        KiteSummons x = new KiteSummons();
        due.bad("2: KIND", v -> x.kite(v, 0, 0, 0), 0, 6, -1);
        due.bad("2: AT", v -> x.kite(1, v, 0, 0), -1, 64);
        due.bad("2: STRING", v -> x.kite(1, 0, v, 0), -1, 10);
        due.bad("2: NAME", v -> x.kite(1, 0, 0, v), -1, 6);
        due.is("2: no KITE came", x.many(0), 0);
        due.is("2: all least", x.kite(1, 0, 0, 0), 0);
        due.is("2: all most", x.kite(5, 63, 9, 5), 1);
        int[] least = {1, 0, 0, 0};
        int[] most = {5, 63, 9, 5};
        for (int what = 0; what < 4; what++) {
            due.is("2: least of " + what, x.kiteOf(0, what), least[what]);
            due.is("2: most of " + what, x.kiteOf(1, what), most[what]);
        }
    }

    /** Promise 2: "FULL", and of several the first named. */
    private static void kiteFull() {
        KiteSummons x = new KiteSummons();
        for (int k = 0; k < 5; k++) {
            x.kite(1, 0, 0, 0);
        }
        due.is("2: the sixth", x.kite(5, 63, 9, 5), 5);
        due.is("2: the seventh", x.kite(5, 63, 9, 5), -2);
        due.bad("2: KIND ahead of FULL", v -> x.kite(v, 0, 0, 0), 0, 6);
        due.bad("2: AT ahead of FULL", v -> x.kite(1, v, 0, 0), -1, 64);
        due.bad("2: STRING ahead of FULL", v -> x.kite(1, 0, v, 0), -1, 10);
        due.bad("2: NAME ahead of FULL", v -> x.kite(1, 0, 0, v), -1, 6);
        due.is("2: six yet", x.many(0), 6);
        x.anew();
        due.is("2: FULL also anew", x.kite(1, 0, 0, 0), -2);
    }

    /** Promise 3: "what = 0 .. 9"; "BAD", also of a KITE that there isn't. */
    private static void kiteOfBounds() {
        KiteSummons none = new KiteSummons();
        due.bad("3: of no KITES", k -> none.kiteOf(k, 0), 0, -1);
        KiteSummons x = Due.county();
        due.bad("3: KITE", k -> x.kiteOf(k, 0), -1, 4, 5, 6);
        due.bad("3: what", what -> x.kiteOf(3, what), -1, 10, 11);
        due.is("3: the last KITE", x.kiteOf(3, 0), 5);
        due.is("3: the last what", x.kiteOf(3, 9), 1);
        x.kite(1, 0, 0, 0);
        x.kite(3, 0, 0, 0);
        due.is("3: KITE 5", x.kiteOf(5, 0), 3);
        due.bad("3: KITE", k -> x.kiteOf(k, 0), -1, 6);
    }

    /** Promise 3: "6 DRIFTS in GUST by its WIND (0 behind GUST 15)": not 0 when it is OVER ahead of that. */
    private static void driftsBehindGust15() {
        KiteSummons x = new KiteSummons();
        for (int kind = 1; kind <= 5; kind++) {
            x.kite(kind, 0, 0, 0);
            x.change(kind - 1, 4, 0);
        }
        x.wind(12, 12);
        x.wind(15, 12);
        for (int gust = 0; gust < 12; gust++) {
            x.gust();
        }
        int[] even = {6, 2, 3, 1, 1};
        int[] odd = {6, 2, 2, 1, 0};
        for (int k = 0; k < 5; k++) {
            due.is("3: DRIFTS though it is OVER, and lies", x.kiteOf(k, 6), even[k]);
        }
        x.ends(16);
        for (int gust = 12; gust < 15; gust++) {
            x.gust();
        }
        for (int k = 0; k < 5; k++) {
            due.is("3: DRIFTS in GUST 15", x.kiteOf(k, 6), odd[k]);
        }
        x.gust();
        for (int k = 0; k < 5; k++) {
            due.is("3: DRIFTS behind GUST 15", x.kiteOf(k, 6), 0);
        }
    }

    /** Promise 3: "8 WILL as all is now (0 serve, 1 hold, 2 cut)": without RULES, and behind GUST 15. */
    private static void willWithoutRules() {
        KiteSummons x = new KiteSummons();
        x.kite(1, 0, 0, 0);
        due.is("3: no RULES", x.kiteOf(0, 8), 0);
        Due.told(x, "kite if gust = 16 cut; kite if gust = 15 hold;");
        x.ends(16);
        for (int gust = 0; gust < 15; gust++) {
            due.is("3: no RULE holds", x.kiteOf(0, 8), 0);
            x.gust();
        }
        due.is("3: by GUST 15", x.kiteOf(0, 8), 1);
        x.gust();
        due.is("3: by GUST 16", x.kiteOf(0, 8), 2);
    }

    /** Promise 4: "AT (what 1), STRING (2), NAME (3), ALOFT (4: 0, 1), SERVED (5: 0, 1)"; "BAD". */
    private static void changeBounds() {
        int[] most = {0, 63, 9, 5, 1, 1};
        KiteSummons none = new KiteSummons();
        due.bad("4: of no KITES", k -> none.change(k, 1, 0), 0, -1);
        KiteSummons x = Due.county();
        for (int what = 1; what <= 5; what++) {
            int w = what;
            int was = x.kiteOf(3, what);
            due.bad("4: v of " + what, v -> x.change(3, w, v), -1, most[what] + 1);
            due.bad("4: KITE", k -> x.change(k, w, 0), -1, 4, 6);
            due.is("4: it stays", x.kiteOf(3, what), was);
            due.is("4: the least", x.change(3, what, 0), was);
            due.is("4: the most", x.change(3, what, most[what]), 0);
            due.is("4: the most", x.kiteOf(3, what), most[what]);
            due.is("4: the same again", x.change(3, what, most[what]), most[what]);
        }
        due.bad("4: what", what -> x.change(3, what, 0), -1, 0, 6, 7, 8, 9, 10);
        due.bad("4: what", what -> x.change(3, what, 1), -1, 0, 6, 7, 8, 9, 10);
        for (int k = 0; k < 3; k++) {
            due.is("4: others stay", x.kiteOf(k, 4) * 10 + x.kiteOf(k, 5), 10);
        }
    }

    /** Promise 5: "A KITE becomes one of another KIND (1 to 5)"; "BAD". */
    private static void remakeBounds() {
        KiteSummons none = new KiteSummons();
        due.bad("5: of no KITES", k -> none.remake(k, 1), 0, -1);
        KiteSummons x = Due.county();
        due.bad("5: KITE", k -> x.remake(k, 2), -1, 4, 6);
        due.bad("5: KIND", kind -> x.remake(3, kind), -1, 0, 6);
        due.is("5: it stays", x.kiteOf(3, 0), 5);
        due.is("5: the least KIND", x.remake(3, 1), 5);
        due.is("5: the greatest KIND", x.remake(3, 5), 1);
        due.is("5: that", x.kiteOf(3, 0), 5);
    }

    /** Promise 6: "WIND of a GUST (0 to 15) becomes v (0 to 15)"; "BAD". */
    private static void windBounds() {
        KiteSummons x = new KiteSummons();
        due.bad("6: GUST", gust -> x.wind(gust, 0), -1, 16);
        due.bad("6: v of GUST 0", v -> x.wind(0, v), -1, 16);
        due.bad("6: v of GUST 15", v -> x.wind(15, v), -1, 16);
        due.is("6: the least", x.wind(0, 0), 4);
        due.is("6: the most", x.wind(15, 15), 4);
        due.is("6: what it was", x.wind(0, 15), 0);
        due.is("6: what it was", x.wind(15, 0), 15);
        due.is("6: of GUST 0", x.wind(0, 0), 15);
        due.is("6: the next one stays", x.wind(1, 0), 4);
        due.is("6: the one ahead stays", x.wind(14, 0), 4);
    }

    /** Promises 7 and 8: "The CELL of a FARM (what 0), how far it COMES (1)"; "BAD". */
    private static void farmBounds() {
        KiteSummons x = new KiteSummons();
        for (int what = 0; what <= 1; what++) {
            int w = what;
            int most = what == 0 ? 63 : 14;
            due.bad("7: FARM", f -> x.farm(f, w, 0), -1, 6);
            due.bad("8: FARM", f -> x.farmOf(f, w), -1, 6);
            for (int f = 0; f <= 5; f += 5) {
                int farm = f;
                due.bad("7: v of " + what, v -> x.farm(farm, w, v), -1, most + 1);
                due.is("8: it stays", x.farmOf(f, what), what == 0 ? 0 : 3);
                due.is("7: the most", x.farm(f, what, most), what == 0 ? 0 : 3);
                due.is("8: the most", x.farmOf(f, what), most);
                due.is("7: the least", x.farm(f, what, 0), most);
                due.is("8: the least", x.farmOf(f, what), 0);
            }
        }
        due.bad("7: what", what -> x.farm(0, what, 0), -1, 2);
        due.bad("8: what", what -> x.farmOf(0, what), -1, 2);
        due.is("8: FARM 1 stays", x.farmOf(1, 1), 3);
        due.is("8: FARM 4 stays", x.farmOf(4, 1), 3);
    }

    /** Promise 9: "END becomes v: what it was. BAD"; END is 1 to 16. */
    private static void endsBounds() {
        KiteSummons x = new KiteSummons();
        due.bad("9: END", v -> x.ends(v), -1, 0, 17);
        due.is("9: it stays", x.state(1), 12);
        due.is("9: the least", x.ends(1), 12);
        due.is("9: the most", x.ends(16), 1);
        due.is("9: the same again", x.ends(16), 16);
        due.is("9: that", x.state(1), 16);
    }

    /** Promise 9: "STATE: v is below GUST": not at it, and BAD comes first. */
    private static void endsBelowGust() {
        KiteSummons x = new KiteSummons();
        x.ends(16);
        for (int gust = 0; gust < 16; gust++) {
            x.gust();
        }
        due.is("9: below GUST 16", x.ends(15), -4);
        due.is("9: below GUST 16", x.ends(1), -4);
        due.bad("9: BAD ahead of STATE", v -> x.ends(v), -1, 0, 17);
        due.is("9: it stays", x.state(1), 16);
        due.is("9: at GUST 16", x.ends(16), 16);
        KiteSummons y = new KiteSummons();
        y.gust();
        due.is("9: at GUST 1", y.ends(1), 12);
        due.is("9: OVER then", y.state(3), 1);
        due.bad("9: 0 is BAD", v -> y.ends(v), 0);
        due.is("9: above GUST 1", y.ends(2), 1);
        due.is("9: not OVER then", y.state(3), 0);
    }

    /** Promise 10: "GUST is 0 again, SCORE 0, all KITES are ALOFT, none SERVED (where they are, STRINGS stay)": when it is OVER. */
    private static void anewWhenOver() {
        KiteSummons x = new KiteSummons();
        x.ends(16);
        for (int k = 0; k < 6; k++) {
            x.kite(1, 0, 9, 0);
        }
        for (int gust = 0; gust < 16; gust++) {
            x.gust();
        }
        due.is("10: SERVED ahead (FAR 2)", x.state(5), 1);
        due.is("10: what GUST was", x.anew(), 16);
        due.is("10: GUST", x.state(0), 0);
        due.is("10: SCORE", x.state(2), 0);
        due.is("10: not OVER", x.state(3), 0);
        due.is("10: all are ALOFT", x.state(4), 63);
        due.is("10: none is SERVED", x.state(5), 0);
        due.is("10: where it lay", x.kiteOf(0, 1), 2);
        due.is("10: its STRING", x.kiteOf(0, 2), 7);
        due.is("10: where the others came to", x.kiteOf(1, 1), 7);
        due.is("10: their STRING", x.kiteOf(1, 2), 2);
    }

    /** Promise 10, of nothing: no KITES, GUST 0. */
    private static void anewOfNothing() {
        KiteSummons x = new KiteSummons();
        due.is("10: GUST 0", x.anew(), 0);
        due.is("10: no KITES", x.state(4) + x.state(5), 0);
        x.kite(1, 0, 0, 0);
        x.change(0, 4, 0);
        x.anew();
        due.is("10: one KITE", x.state(4), 1);
    }

    /** Promise 11: "What = 0 .. 6"; "BAD". */
    private static void stateBounds() {
        KiteSummons x = Due.county();
        due.bad("11: what", what -> x.state(what), -1, 7);
        due.is("11: the first what", x.state(0), 0);
        due.is("11: the last what", x.state(6), 4);
        due.is("11: no KITES, ALOFT", new KiteSummons().state(4), 0);
        x.kite(1, 0, 0, 0);
        x.kite(1, 0, 0, 0);
        due.is("11: six, ALOFT", x.state(4), 63);
        due.is("11: wrapped", x.state(MIN) + x.state(MAX), -2);
    }

    /** Promise 11: "6 WIND of GUST (0 behind GUST 15)": not when it is OVER ahead of that. */
    private static void windBehindGust15() {
        KiteSummons x = new KiteSummons();
        x.wind(12, 7);
        x.wind(15, 15);
        for (int gust = 0; gust < 12; gust++) {
            x.gust();
        }
        due.is("11: WIND of GUST 12, though it is OVER", x.state(6), 7);
        x.ends(16);
        for (int gust = 12; gust < 15; gust++) {
            x.gust();
        }
        due.is("11: WIND of GUST 15", x.state(6), 15);
        x.gust();
        due.is("11: WIND behind GUST 15", x.state(6), 0);
    }
}
