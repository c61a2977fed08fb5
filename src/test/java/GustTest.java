/** Promises 14 to 18: GUSTS of THE REST. */
public final class GustTest {
    private static final Due due = new Due();

    public static void main(String[] args) {
        gust();
        ways();
        stringsAndEdges();
        worth();
        whoIsTold();
        wills();
        on();
        when();
        stringFor();
        nameFor();
        due.end("GustTest");
    }

    private static void gust() {
        KiteSummons x = Due.county();
        due.is("14: WORTH", x.gust(), 15);
        due.is("14: GUST", x.state(0), 1);
        due.is("14: SCORE", x.state(2), 15);
        int[][] are = {{19, 6, 0, 1}, {33, 9, 1, 0}, {9, 4, 1, 0}, {28, 5, 1, 0}};
        for (int k = 0; k < 4; k++) {
            due.is("14: AT", x.kiteOf(k, 1), are[k][0]);
            due.is("14: STRING", x.kiteOf(k, 2), are[k][1]);
            due.is("14: ALOFT", x.kiteOf(k, 4), are[k][2]);
            due.is("14: SERVED", x.kiteOf(k, 5), are[k][3]);
        }
        due.is("14: the heavy one, at FAR 3", x.gust(), 11);
        due.is("14: SCORE grows", x.state(2), 26);
        due.is("14: what lies stays", x.kiteOf(0, 1), 19);
        due.is("14: what lies keeps its STRING", x.kiteOf(0, 2), 6);
        due.is("14: the old one in an odd GUST", x.kiteOf(3, 1), 28);
        due.is("14: the old one, at FAR 3", x.gust(), 7);
        due.is("14: the old one in an even GUST", x.kiteOf(3, 1), 29);
        x.ends(3);
        due.is("14: OVER", x.gust(), -4);
        due.is("14: no more", x.state(0), 3);
        KiteSummons empty = new KiteSummons();
        for (int i = 0; i < 12; i++) {
            due.is("14: without KITES", empty.gust(), 0);
        }
        due.is("14: END 12", empty.gust(), -4);
        empty.ends(16);
        due.is("14: and on", empty.gust(), 0);
    }

    private static void ways() {
        int[] to = {29, 43, 25, 11};
        for (int way = 0; way < 4; way++) {
            KiteSummons x = new KiteSummons();
            x.kite(1, 27, 9, 0);
            x.farm(0, 1, 0);
            x.wind(0, 4 + way);
            x.gust();
            due.is("14: on WAY " + way, x.kiteOf(0, 1), to[way]);
            due.is("14: STRING is less", x.kiteOf(0, 2), 7);
        }
    }

    private static void stringsAndEdges() {
        for (int way = 0; way < 4; way++) {
            int[] from = {21, 42, 18, 21};
            int[] edge = {23, 58, 16, 5};
            KiteSummons x = new KiteSummons();
            x.farm(0, 1, 0);
            x.kite(1, from[way], 9, 0);
            x.kite(1, from[way], 1, 0);
            x.kite(1, from[way], 0, 0);
            x.wind(0, 12 + way);
            x.gust();
            int one = new int[] {1, 8, -1, -8}[way];
            due.is("14: not off THE MOOR, on WAY " + way, x.kiteOf(0, 1), edge[way]);
            due.is("14: STRING is as much less as it went", x.kiteOf(0, 2), 7);
            due.is("14: no more than its STRING", x.kiteOf(1, 1), from[way] + one);
            due.is("14: STRING is 0", x.kiteOf(1, 2), 0);
            due.is("14: none without STRING", x.kiteOf(2, 1), from[way]);
        }
    }

    /** FEE, and 9 less FAR more, as far as the FARM COMES. */
    private static void worth() {
        for (int far = 0; far <= 14; far++) {
            for (int comes = 0; comes <= 14; comes += 7) {
                KiteSummons x = new KiteSummons();
                x.wind(0, 0);
                x.farm(0, 1, comes);
                x.kite(4, far <= 7 ? far : 7 + 8 * (far - 7), 9, 0);
                boolean isServed = far <= comes;
                due.is("14: FAR " + far, x.gust(), isServed ? 3 + Math.max(0, 9 - far) : 0);
                due.is("14: SERVED", x.state(5), isServed ? 1 : 0);
                due.is("14: ALOFT", x.state(4), isServed ? 0 : 1);
            }
        }
    }

    private static void whoIsTold() {
        KiteSummons x = new KiteSummons();
        x.wind(0, 0);
        x.wind(1, 0);
        x.wind(2, 0);
        x.kite(4, 63, 0, 0);
        x.kite(4, 3, 0, 0);
        x.kite(1, 0, 0, 0);
        x.kite(1, 0, 0, 0);
        x.change(2, 4, 0);
        due.is("14: the least in reach", x.gust(), 9);
        due.is("14: that", x.state(5), 2);
        due.is("14: then the next ALOFT", x.gust(), 15);
        due.is("14: that", x.state(5), 10);
        due.is("14: none is in reach", x.gust(), 0);
        due.is("14: it stays ALOFT", x.state(4), 1);
    }

    private static void wills() {
        KiteSummons x = new KiteSummons();
        x.kite(4, 0, 0, 0);
        x.kite(1, 0, 0, 0);
        Due.told(x, "box if gust < 2 hold; box cut;");
        due.is("14: hold", x.gust(), 0);
        due.is("14: none lies", x.state(4), 3);
        due.is("14: hold", x.gust(), 0);
        due.is("14: cut", x.gust(), 1);
        due.is("14: it lies", x.state(4), 2);
        due.is("14: not SERVED", x.state(5), 0);
        due.is("14: serve", x.gust(), 15);
        due.is("14: SCORE", x.state(2), 16);
        x.anew();
        x.change(0, 5, 1);
        x.gust();
        due.is("14: SERVED stays", x.state(5), 1);
        x.rules();
        due.is("14: SERVED again is WORTH as much", x.gust(), 12);
    }

    private static void on() {
        KiteSummons x = Due.county();
        due.is("15: 0", x.on(0), 0);
        due.is("15: 1", x.on(1), 15);
        due.is("15: 2", x.on(2), 15 + 11);
        due.is("15: 3", x.on(3), 15 + 11 + 7);
        due.is("15: BAD", x.on(-1), -1);
        due.is("15: BAD", x.on(17), -1);
        due.is("15: it changes nothing", x.state(0) + x.state(2), 0);
        due.is("15: no STRING", x.kiteOf(0, 2), 8);
        int all = x.on(16);
        int sum = 0;
        for (int i = 0; i < 12; i++) {
            sum += x.gust();
        }
        due.is("15: till it is OVER", all, sum);
        due.is("15: when it is OVER", x.on(16), 0);
        x.anew();
        x.ends(1);
        due.is("15: END 1", x.on(16), x.on(1));
    }

    private static void when() {
        KiteSummons x = Due.county();
        due.is("16: in GUST 0", x.when(0), 0);
        due.is("16: in GUST 1", x.when(1), 1);
        due.is("16: in GUST 2", x.when(3), 2);
        due.is("16: never", x.when(2), -3);
        due.is("16: no such KITE", x.when(4), -1);
        due.is("16: no such KITE", x.when(-1), -1);
        x.gust();
        due.is("16: it lies now", x.when(0), -3);
        due.is("16: told by the number of the GUST", x.when(3), 2);
        due.is("16: nothing is changed", x.state(0), 1);
        x.ends(1);
        due.is("16: OVER", x.when(3), -3);
        KiteSummons cut = new KiteSummons();
        cut.kite(1, 0, 0, 0);
        Due.told(cut, "red if gust < 3 hold; red cut;");
        due.is("16: who is cut lies", cut.when(0), 3);
    }

    private static void stringFor() {
        KiteSummons x = new KiteSummons();
        x.kite(1, 0, 7, 0);
        x.farm(0, 0, 4);
        due.is("17: 2 of STRING", x.stringFor(0), 2);
        x.farm(0, 1, 0);
        due.is("17: just to the FARM", x.stringFor(0), 4);
        x.farm(0, 0, 5);
        due.is("17: and not over it", x.stringFor(0), 5);
        due.is("17: its STRING stays", x.kiteOf(0, 2), 7);
        x.change(0, 4, 0);
        due.is("17: one that lies", x.stringFor(0), 0);
        x.change(0, 4, 1);
        x.farm(0, 0, 56);
        due.is("17: of no use", x.stringFor(0), 0);
        x.change(0, 1, 8);
        x.farm(0, 0, 15);
        x.farm(0, 1, 14);
        x.ends(1);
        due.is("17: as far as one GUST goes", x.stringFor(0), 2);
        due.is("17: no such KITE", x.stringFor(1), -1);
        due.is("17: no such KITE", x.stringFor(-1), -1);
        x.gust();
        due.is("17: OVER", x.stringFor(0), 0);
        x.anew();
        x.kite(5, 1, 0, 1);
        x.farm(1, 0, 1);
        x.farm(1, 1, 14);
        x.wind(0, 12);
        x.ends(2);
        x.change(0, 1, 0);
        x.farm(0, 0, 7);
        x.farm(0, 1, 0);
        due.is("17: all of THE REST counts", x.stringFor(0), 7);
    }

    private static void nameFor() {
        KiteSummons x = new KiteSummons();
        x.kite(1, 0, 9, 5);
        for (int f = 0; f < 6; f++) {
            x.farm(f, 0, 63);
        }
        due.is("18: none is of use", x.nameFor(0), 0);
        x.farm(2, 0, 2);
        x.farm(4, 0, 2);
        due.is("18: the least", x.nameFor(0), 2);
        x.farm(4, 0, 1);
        x.farm(2, 0, 3);
        due.is("18: the least of two as FAR", x.nameFor(0), 2);
        x.farm(4, 0, 2);
        due.is("18: the nearest", x.nameFor(0), 4);
        due.is("18: its NAME stays", x.kiteOf(0, 3), 5);
        Due.told(x, "red if name = 4 cut; red if name = 2 hold;");
        x.farm(5, 0, 5);
        due.is("18: by THE RULES", x.nameFor(0), 5);
        due.is("18: no such KITE", x.nameFor(1), -1);
        due.is("18: no such KITE", x.nameFor(-1), -1);
        x.change(0, 4, 0);
        due.is("18: one that lies", x.nameFor(0), 0);
        due.is("18: nothing is changed", x.state(0) + x.state(2), 0);
    }
}
