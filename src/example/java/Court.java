/** The example of README.md: a county from its first farm to what is kept of it. */
public final class Court {
    public static void main(String[] args) {
        KiteSummons x = new KiteSummons();
        settle(x);
        tellRules(x, "heavy if gust < 3 hold; box if far > 2 cut;");
        plan(x);
        fly(x);
        seekStrangeKite(x);
        callTheHost(x);
        keep(x);
    }

    private static void settle(KiteSummons x) {
        x.farm(0, 0, 19);                       // FARM 0 stands at CELL 19 (x 3, y 2)
        x.farm(1, 0, 44);
        say("a red kite", x.kite(1, 17, 8, 0)); // at CELL 17, on 8 of STRING, with FARM 0's name
        say("a heavy kite", x.kite(2, 33, 9, 1));
        say("a box kite", x.kite(4, 27, 5, 0));
        say("no such kind", x.kite(6, 0, 0, 0));
        x.wind(1, 8 + 1);                       // in GUST 1: FORCE 2, y more
    }

    /** THE TAPE takes eight bytes at a time, the lowest first. */
    private static void tellRules(KiteSummons x, String text) {
        for (int i = 0; i < text.length(); i += 8) {
            int n = Math.min(8, text.length() - i);
            long eight = 0;
            for (int j = 0; j < n; j++) {
                eight |= (long) text.charAt(i + j) << 8 * j;
            }
            x.feed(eight, n);
        }
        say("rules", x.rules());
    }

    private static void plan(KiteSummons x) {
        say("two gusts of the rest are worth", x.on(2));
        say("all of it", x.on(16));
        say("the best plans of 2 are worth", x.best(2));
        say("so many are as good", x.ways(2));
        say("the first one's first act", x.ith(2, 0));
        say("its second act", x.ith(2, 1));
        say("rows of it", x.prove(2));
        say("the first row that is wrong", x.judge());
    }

    private static void fly(KiteSummons x) {
        say("a gust was worth", x.gust());
        say("another was worth", x.gust());
        say("served", x.state(5));              // a set, by bits
        say("a judge's way from CELL 0", x.circuit(0, 0));
    }

    private static void seekStrangeKite(KiteSummons x) {
        x.report(0, 0, 6, 7);                   // behind no GUST its x was 6 or 7
        x.report(2, 1, 0, 1);                   // behind two its y was 0 or 1
        say("strange kites that fit", x.span(0));
        say("the least kind", x.span(1));
        say("its least cell", x.span(2));
    }

    private static void callTheHost(KiteSummons x) {
        x.sheet(0, 0, 2);                       // two bytes
        x.write(0, 0, 3);                       // an ACT: KITE 2 is told
        x.write(0, 1, 9);                       // none
        say("the first act would be worth", x.wouldBe(0, 0, 1));
        say("both would be", x.wouldBe(0, 0, 2));
        x.shelf(0, 0, 1);
        say("the heavy kite reads", x.act(0, 1, 10));
        say("bodies that ran", x.many(6));
    }

    private static void keep(KiteSummons x) {
        x.keep();
        x.anew();
        say("gust", x.state(0));
        say("kites again", x.again());
        say("gust", x.state(0));
    }

    private static void say(String what, int answer) {
        System.out.println(what + ": " + answer);
    }
}
