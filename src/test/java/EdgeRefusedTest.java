import java.util.List;
import java.util.function.Supplier;
import java.util.function.ToIntFunction;

/**
 * "Answers below 0, where not told otherwise, are refusals; such a call changes nothing (but that THE TAPE is used up
 * by rules())", and "What is asked changes nothing, if not told": each refusal and each question of each call is made
 * of one of two counties that are alike, and they are alike afterwards.
 */
public final class EdgeRefusedTest {
    private static final Due due = new Due();

    public static void main(String[] args) {
        refusedOfTheMoor();
        refusedOfTheRules();
        refusedOfGusts();
        refusedOfPlans();
        refusedOfStrangeOnes();
        refusedOfRows();
        refusedOfSheets();
        refusedOfShelves();
        refusedOfAgain();
        askedOfTheMoor();
        askedOfGusts();
        askedOfPlans();
        askedOfTheHost();
        faultUsesUpTheTape();
        outsideInTheEnd();
        noTraceThen();
        onlyTheTrace();
        onlyTheRows();
        due.end("EdgeRefusedTest");
    }

    /** Of all that there is as much as can be (but 4 ROWS and 4 SHEETS), and 2 GUSTS went by. */
    private static KiteSummons full() {
        KiteSummons x = new KiteSummons();
        x.farm(0, 0, 19);
        x.farm(1, 0, 36);
        x.farm(5, 1, 2);
        int[][] kites = {{1, 17, 8, 0}, {2, 33, 9, 1}, {4, 8, 5, 2}, {5, 27, 6, 0}, {3, 34, 9, 1}, {1, 40, 1, 3}};
        for (int[] kite : kites) {
            x.kite(kite[0], kite[1], kite[2], kite[3]);
        }
        x.wind(1, 9);
        x.wind(3, 14);
        x.seed(4711);
        Due.told(x, "old if gust > 3 hold; box if far > 2 cut;");
        x.report(0, 0, 1, 4);
        x.report(1, 1, 2, 6);
        x.keep();
        x.gust();
        x.gust();
        for (int i = 0; i < 4; i++) {
            x.report(i, 0, 1, 7);
        }
        Due.bytes(x, 0, 1, 99, 2, 0);
        x.sheet(1, 2, 2);
        x.write(1, 0, 77);
        x.sheet(3, 3, 1);
        x.shelf(0, 0, 2);
        x.shelf(1, 1, 1);
        x.shelf(3, 0, 4);
        x.act(0, 3, 5);
        x.prove(3);
        x.alterRow(1, 1, 5);
        for (int i = 0; i < 25; i++) {
            x.feed(0x2020202020202020L, 8);
        }
        return x;
    }

    /** As full(), but it is OVER. */
    private static KiteSummons over() {
        KiteSummons x = full();
        x.ends(2);
        return x;
    }

    private static void same(String call, KiteSummons x, KiteSummons twin) {
        List<Integer> of = Eye.see(x);
        List<Integer> ofTwin = Eye.see(twin);
        due.is(call + ": as many answers", of.size(), ofTwin.size());
        for (int i = 0; i < of.size() && i < ofTwin.size(); i++) {
            due.is(call + ": what is seen, " + i, of.get(i), ofTwin.get(i));
        }
    }

    private static void refused(Supplier<KiteSummons> county, String call, int answer, ToIntFunction<KiteSummons> made) {
        KiteSummons x = county.get();
        due.is(call, made.applyAsInt(x), answer);
        same(call, x, county.get());
    }

    private static void refused(String call, int answer, ToIntFunction<KiteSummons> made) {
        refused(EdgeRefusedTest::full, call, answer, made);
        refused(EdgeRefusedTest::over, call, answer, made);
    }

    private static void asked(String call, ToIntFunction<KiteSummons> made) {
        KiteSummons x = full();
        int answer = made.applyAsInt(x);
        due.is(call + ", once more", made.applyAsInt(x), answer);
        same(call, x, full());
        refused(EdgeRefusedTest::over, call + ", OVER", made.applyAsInt(over()), made);
        refused(KiteSummons::new, call + ", of a new one", made.applyAsInt(new KiteSummons()), made);
    }

    private static void refusedOfTheMoor() {
        refused(KiteSummons::new, "2: kite, KIND", -1, x -> x.kite(0, 0, 0, 0));
        refused(KiteSummons::new, "2: kite, AT", -1, x -> x.kite(1, 64, 0, 0));
        refused(KiteSummons::new, "2: kite, STRING", -1, x -> x.kite(1, 0, 10, 0));
        refused(KiteSummons::new, "2: kite, NAME", -1, x -> x.kite(1, 0, 0, 6));
        refused("2: kite, FULL", -2, x -> x.kite(1, 0, 0, 0));
        refused("3: kiteOf, KITE", -1, x -> x.kiteOf(6, 0));
        refused("3: kiteOf, what", -1, x -> x.kiteOf(0, 10));
        refused("4: change, KITE", -1, x -> x.change(6, 1, 5));
        refused("4: change, what", -1, x -> x.change(0, 0, 5));
        refused("4: change, what", -1, x -> x.change(0, 6, 0));
        refused("4: change, AT", -1, x -> x.change(0, 1, 64));
        refused("4: change, STRING", -1, x -> x.change(0, 2, 10));
        refused("4: change, NAME", -1, x -> x.change(0, 3, 6));
        refused("4: change, ALOFT", -1, x -> x.change(0, 4, 2));
        refused("4: change, SERVED", -1, x -> x.change(0, 5, 2));
        refused("5: remake, KITE", -1, x -> x.remake(6, 1));
        refused("5: remake, KIND", -1, x -> x.remake(0, 6));
        refused("6: wind, GUST", -1, x -> x.wind(16, 0));
        refused("6: wind, v", -1, x -> x.wind(0, 16));
        refused("7: farm, FARM", -1, x -> x.farm(6, 0, 0));
        refused("7: farm, what", -1, x -> x.farm(0, 2, 0));
        refused("7: farm, CELL", -1, x -> x.farm(0, 0, 64));
        refused("7: farm, COMES", -1, x -> x.farm(0, 1, 15));
        refused("8: farmOf, FARM", -1, x -> x.farmOf(6, 0));
        refused("9: ends, BAD", -1, x -> x.ends(17));
        refused("9: ends, STATE", -4, x -> x.ends(1));
        refused("11: state, what", -1, x -> x.state(7));
    }

    private static void refusedOfTheRules() {
        refused("12: feed, n", -1, x -> x.feed(-1L, 9));
        refused("12: feed, FULL", -2, x -> x.feed(-1L, 1));
        refused(EdgeRefusedTest::nearlyFull, "12: feed, FULL", -2, x -> x.feed(-1L, 8));
    }

    private static KiteSummons nearlyFull() {
        KiteSummons x = new KiteSummons();
        for (int i = 0; i < 24; i++) {
            x.feed(-1L, 8);
        }
        x.feed(-1L, 1);
        return x;
    }

    private static void refusedOfGusts() {
        refused(EdgeRefusedTest::over, "14: gust, STATE", -4, x -> x.gust());
        refused("15: on, n", -1, x -> x.on(17));
        refused("16: when, KITE", -1, x -> x.when(6));
        refused("16: when, it lies", -3, x -> x.when(0));
        refused("17: stringFor, KITE", -1, x -> x.stringFor(6));
        refused("18: nameFor, KITE", -1, x -> x.nameFor(-1));
        refused("19: over, CELL", -1, x -> x.over(64));
        refused("19: over, NONE", -3, x -> x.over(63));
        refused("20: cases, KITE", -1, x -> x.cases(6));
        refused("21: circuit, CELL", -1, x -> x.circuit(64, 0));
        refused("21: circuit, what", -1, x -> x.circuit(0, 2));
        refused(KiteSummons::new, "21: circuit, NONE", -3, x -> x.circuit(0, 1));
    }

    private static void refusedOfPlans() {
        refused("22: best, n", -1, x -> x.best(5));
        refused("23: ith, n", -1, x -> x.ith(5, 0));
        refused("23: ith, NONE", -3, x -> x.ith(1, 3));
        refused("24: ways, n", -1, x -> x.ways(5));
        refused("25: writ, set", -1, x -> x.writ(2, 64));
        refused("25: writ, NONE", -3, x -> x.writ(1, 63));
        refused("26: bars, set", -1, x -> x.bars(2, 64));
        refused("26: bars, NONE", -3, x -> x.bars(1, 0));
        refused("27: game, n", -1, x -> x.game(0));
        refused("28: play, n", -1, x -> x.play(5));
        refused(EdgeRefusedTest::over, "28: play, NONE", -3, x -> x.play(4));
    }

    private static void refusedOfStrangeOnes() {
        refused("29: report, k", -1, x -> x.report(16, 0, 0, 0));
        refused("29: report, MOST below LEAST", -1, x -> x.report(0, 0, 1, 0));
        refused("29: report, FULL", -2, x -> x.report(0, 0, 0, 0));
        refused(KiteSummons::new, "29: report, axis", -1, x -> x.report(0, 2, 0, 0));
        refused(KiteSummons::new, "29: report, MOST", -1, x -> x.report(0, 0, 0, 8));
        refused("31: span, what", -1, x -> x.span(3));
        refused(KiteSummons::new, "32: liar, NONE", -3, x -> x.liar());
        refused(EdgeRefusedTest::over, "34: lot, STATE", -4, x -> x.lot());
        refused("35: times, n", -1, x -> x.times(41, 0));
        refused("35: times, v", -1, x -> x.times(40, 1000));
    }

    private static void refusedOfRows() {
        refused("36: prove, n", -1, x -> x.prove(5));
        refused("36: prove, n", -1, x -> x.prove(-1));
        refused("37: row, none such", -9, x -> x.row(3, 0));
        refused("37: row, what", -9, x -> x.row(0, 3));
        refused("38: alterRow, none such", -9, x -> x.alterRow(3, 0, 8));
        refused("38: alterRow, what", -9, x -> x.alterRow(0, 3, 8));
    }

    private static void refusedOfSheets() {
        refused("40: sheet, SHEET", -1, x -> x.sheet(4, 0, 1));
        refused("40: sheet, sort", -1, x -> x.sheet(0, 5, 1));
        refused("40: sheet, n", -1, x -> x.sheet(0, 2, 41));
        refused("40: sheet, below 0", -14, x -> x.sheet(0, 2, -1));
        refused("41: write, SHEET", -1, x -> x.write(4, 0, 5));
        refused("41: write, missing", -11, x -> x.write(2, 0, 5));
        refused("41: write, outside", -12, x -> x.write(0, 4, 5));
        refused("42: item, SHEET", -1, x -> x.item(4, 0, 0));
        refused("42: item, sort", -13, x -> x.item(0, 1, 0));
        refused("42: item, missing", -11, x -> x.item(2, 0, 0));
        refused("42: item, outside", -12, x -> x.item(0, 0, 4));
        refused("43: goAll, SHEET", -1, x -> x.goAll(4, 0, 1));
        refused("43: goAll, n", -1, x -> x.goAll(0, 0, 21));
        refused("43: goAll, sort", -13, x -> x.goAll(1, 0, 1));
        refused("43: goAll, missing", -11, x -> x.goAll(2, 0, 1));
        refused("43: goAll, outside at once", -12, x -> x.goAll(0, 4, 20));
        refused("44: wouldBe, SHEET", -1, x -> x.wouldBe(4, 0, 1));
        refused("44: wouldBe, n", -1, x -> x.wouldBe(0, 0, -1));
        refused("44: wouldBe, sort", -13, x -> x.wouldBe(3, 0, 1));
        refused("44: wouldBe, missing", -11, x -> x.wouldBe(2, 0, 1));
        refused(EdgeRefusedTest::full, "44: wouldBe, outside in the end", -12, x -> x.wouldBe(0, 2, 3));
        refused("44: wouldBe, STATE", -4, x -> x.wouldBe(0, 0, 2));
    }

    private static void refusedOfShelves() {
        refused("45: shelf, SHELF", -1, x -> x.shelf(4, 2, 0));
        refused("45: shelf, what", -1, x -> x.shelf(0, 3, 0));
        refused("45: shelf, KITE", -1, x -> x.shelf(0, 0, 6));
        refused("45: shelf, SHEET", -1, x -> x.shelf(0, 1, 4));
        refused("46: taken, SHELF", -1, x -> x.taken(4, 0));
        refused("46: taken, as", -1, x -> x.taken(0, 6));
        refused("46: taken, KIND", -13, x -> x.taken(0, 1));
        refused("46: taken, nothing", -11, x -> x.taken(2, 0));
        refused("48: trace, NONE", -3, x -> x.trace(30));
        refused("49: many, what", -1, x -> x.many(7));
    }

    private static KiteSummons notKept() {
        KiteSummons x = Due.county();
        x.gust();
        x.seed(5);
        x.report(0, 0, 1, 1);
        Due.told(x, "kite hold;");
        return x;
    }

    private static void refusedOfAgain() {
        refused(KiteSummons::new, "51: again, NONE", -3, x -> x.again());
        refused(EdgeRefusedTest::notKept, "51: again, NONE", -3, x -> x.again());
    }

    private static void askedOfTheMoor() {
        for (int what = 0; what < 10; what++) {
            int w = what;
            asked("3: kiteOf " + what, x -> x.kiteOf(2, w));
        }
        asked("8: farmOf", x -> x.farmOf(5, 1));
        for (int what = 0; what < 7; what++) {
            int w = what;
            asked("11: state " + what, x -> x.state(w));
            asked("49: many " + what, x -> x.many(w));
        }
    }

    private static void askedOfGusts() {
        asked("15: on", x -> x.on(16));
        for (int k = 0; k < 6; k++) {
            int kite = k;
            asked("16: when", x -> x.when(kite));
            asked("17: stringFor", x -> x.stringFor(kite));
            asked("18: nameFor", x -> x.nameFor(kite));
            asked("20: cases", x -> x.cases(kite));
        }
        asked("19: over", x -> x.over(12));
        asked("20: cases", x -> x.cases(-1));
        asked("21: circuit, steps", x -> x.circuit(63, 0));
        asked("21: circuit, the first", x -> x.circuit(63, 1));
    }

    private static void askedOfPlans() {
        asked("22: best", x -> x.best(3));
        asked("23: ith", x -> x.ith(3, 0));
        asked("24: ways", x -> x.ways(3));
        asked("25: writ", x -> x.writ(3, 2));
        asked("26: bars", x -> x.bars(3, 63));
        asked("27: game", x -> x.game(3));
        asked("28: play", x -> x.play(3));
        for (int what = 0; what < 3; what++) {
            int w = what;
            asked("31: span", x -> x.span(w));
            asked("37: row", x -> x.row(1, w));
        }
        asked("32: liar", x -> x.liar());
        asked("35: times", x -> x.times(40, 20));
        asked("39: judge", x -> x.judge());
    }

    private static void askedOfTheHost() {
        asked("42: item", x -> x.item(0, 0, 1));
        asked("44: wouldBe", x -> x.wouldBe(0, 2, 2));
        asked("46: taken, a KITE", x -> x.taken(0, 4));
        asked("46: taken, a row", x -> x.taken(1, 12));
        asked("48: trace", x -> x.trace(1));
    }

    /** "(but that THE TAPE is used up by rules())": and nothing else is changed by a FAULT. */
    private static void faultUsesUpTheTape() {
        String[] texts = {"x", "kite hold; kite", "kite if ((((1=1)))) cut;"};
        int[] faults = {0, 15, 11};
        for (int i = 0; i < texts.length; i++) {
            KiteSummons x = notKept();
            due.is("13: a FAULT", Due.told(x, texts[i]), -100 - faults[i]);
            same("13: a FAULT", x, notKept());
        }
    }

    /** Promise 43: "-12: what stood ahead was done", and no more: as by a call that asks for no more. */
    private static void outsideInTheEnd() {
        for (int i = 0; i < 4; i++) {
            KiteSummons x = full();
            KiteSummons twin = full();
            due.is("43: one too many", x.goAll(0, i, 5 - i), -12);
            twin.goAll(0, i, 4 - i);
            same("43: from " + i, x, twin);
        }
    }

    /** Promise 47: "0, and no TRACE then": nothing else is changed. */
    private static void noTraceThen() {
        int[][] none = {{4, 0}, {0, 4}, {2, 0}, {1, 0}};
        for (int[] call : none) {
            KiteSummons x = notKept();
            KiteSummons twin = notKept();
            for (KiteSummons one : List.of(x, twin)) {
                one.shelf(0, 0, 1);
                one.sheet(0, 2, 3);
                one.shelf(1, 1, 0);
            }
            x.act(0, 1, 5);
            due.is("47: none", x.act(call[0], call[1], 5), 0);
            same("47: none", x, twin);
        }
    }

    /** act() leaves THE TRACE alone behind, also when it answers -15. */
    private static void onlyTheTrace() {
        for (int act = 0; act < 4; act++) {
            KiteSummons x = full();
            x.act(0, act, 9);
            x.change(2, 3, 2);
            due.is("47: parts by 0", x.act(0, 2, 9), -15);
            x.act(0, 3, 5);
            same("47: act", x, full());
        }
    }

    /** prove() leaves ROWS alone behind. */
    private static void onlyTheRows() {
        for (int n = 0; n <= 4; n++) {
            KiteSummons x = full();
            due.is("36: prove", x.prove(n), n);
            x.prove(3);
            x.alterRow(1, 1, 5);
            same("36: prove", x, full());
        }
    }
}
