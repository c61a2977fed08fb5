/** Promises 50 and 51: counties kept. */
public final class KeptTest {
    private static final Due due = new Due();

    public static void main(String[] args) {
        nothing();
        what();
        whatIsNot();
        latest();
        due.end("KeptTest");
    }

    private static void nothing() {
        KiteSummons x = Due.county();
        due.is("51: nothing is kept", x.again(), -3);
        due.is("51: nothing is changed", x.many(0), 4);
        KiteSummons y = new KiteSummons();
        due.is("50: keep", y.keep(), 1);
        y.kite(1, 0, 0, 0);
        due.is("51: without KITES", y.again(), 0);
        due.is("51: none", y.state(4) + y.many(0), 0);
    }

    /** Each part of what is kept is changed, and comes again. */
    private static void what() {
        KiteSummons x = Due.county();
        Due.told(x, "red if far = 2 hold; kite cut;");
        x.report(0, 0, 1, 2);
        x.report(0, 1, 3, 4);
        x.seed(99);
        x.ends(11);
        x.wind(0, 5);
        x.gust();
        x.change(3, 5, 1);
        int[] asked = ask(x);
        due.is("50: keep", x.keep(), 1);
        x.kite(3, 1, 1, 1);
        x.kite(3, 1, 1, 1);
        for (int k = 0; k < 4; k++) {
            x.remake(k, 3);
            x.change(k, 1, 50 + k);
            x.change(k, 2, 4);
            x.change(k, 3, 5 - k);
            x.change(k, 4, k % 2);
            x.change(k, 5, 1);
        }
        for (int i = 0; i < 6; i++) {
            x.farm(i, 0, 60);
            x.farm(i, 1, 9);
        }
        for (int i = 0; i < 16; i++) {
            x.wind(i, 13);
        }
        Due.told(x, "kite if 1=1 hold;");
        x.forget();
        x.report(1, 1, 5, 7);
        x.gust();
        x.lot();
        x.ends(14);
        for (int time = 0; time < 2; time++) {
            due.is("51: how many KITES", x.again(), 4);
            int[] now = ask(x);
            for (int i = 0; i < asked.length; i++) {
                due.is("51: part " + i, now[i], asked[i]);
            }
            x.anew();
            x.change(0, 1, 33);
            x.rules();
        }
    }

    private static int[] ask(KiteSummons x) {
        int[] answers = new int[7 + 40 + 12 + 16 + 10];
        int i = 0;
        for (int what = 0; what < 7; what++) {
            answers[i++] = x.state(what);
        }
        for (int k = 0; k < 4; k++) {
            for (int what = 0; what < 10; what++) {
                answers[i++] = x.kiteOf(k, what);
            }
        }
        for (int f = 0; f < 6; f++) {
            answers[i++] = x.farmOf(f, 0);
            answers[i++] = x.farmOf(f, 1);
        }
        for (int g = 0; g < 16; g++) {
            int was = x.wind(g, 0);
            x.wind(g, was);
            answers[i++] = was;
        }
        int z = x.seed(0);
        x.seed(z);
        answers[i++] = z;
        for (int what = 0; what < 4; what++) {
            answers[i++] = x.many(what);
        }
        for (int what = 0; what < 3; what++) {
            answers[i++] = x.span(what);
        }
        answers[i++] = x.on(16);
        answers[i++] = x.best(2);
        return answers;
    }

    private static void whatIsNot() {
        KiteSummons x = Due.county();
        x.shelf(0, 0, 1);
        x.keep();
        x.feed(0, 3);
        x.prove(2);
        x.sheet(0, 2, 5);
        x.write(0, 1, 8);
        x.shelf(0, 0, 3);
        x.act(0, 2, 7);
        due.is("51: again", x.again(), 4);
        due.is("51: THE TAPE stays", x.many(5), 3);
        due.is("51: ROWS stay", x.many(4), 2);
        due.is("51: a ROW stays", x.row(0, 1), 15);
        due.is("51: SHEETS stay", x.item(0, 2, 1), 8);
        due.is("51: SHELVES stay", x.taken(0, 0), 3);
        due.is("51: THE TRACE stays", x.many(6), 4);
        due.is("51: THE TRACE stays", x.trace(0), 61);
    }

    private static void latest() {
        KiteSummons x = Due.county();
        x.keep();
        x.gust();
        x.kite(1, 1, 1, 1);
        x.keep();
        x.gust();
        due.is("51: the latest", x.again(), 5);
        due.is("51: the latest", x.state(0), 1);
        x.gust();
        due.is("51: which stays", x.again(), 5);
        due.is("51: which stays", x.state(0), 1);
    }
}
