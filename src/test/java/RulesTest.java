/** Promises 12 and 13: THE TAPE, THE RULES. */
public final class RulesTest {
    private static final Due due = new Due();

    public static void main(String[] args) {
        feed();
        howMany();
        faults();
        faultsOfRows();
        tapeIsUsedUp();
        toldOften();
        kinds();
        conditions();
        facts();
        due.end("RulesTest");
    }

    private static void feed() {
        KiteSummons x = new KiteSummons();
        due.is("12: n of 0", x.feed(0, 0), -1);
        due.is("12: n of 9", x.feed(0, 9), -1);
        due.is("12: n below 0", x.feed(0, Integer.MIN_VALUE), -1);
        due.is("12: one byte", x.feed(0x3B747563, 1), 1);
        due.is("12: none told", x.many(5), 1);
        for (int i = 1; i < 25; i++) {
            due.is("12: eight more", x.feed(0x2020202020202020L, 8), 1 + 8 * i);
        }
        due.is("12: eight more than 200", x.feed(0, 8), -2);
        due.is("12: it has as many", x.many(5), 193);
        due.is("12: seven more", x.feed(0x20202020202020L, 7), 200);
        due.is("12: FULL", x.feed(0, 1), -2);
        due.is("12: BAD ahead of FULL", x.feed(0, 0), -1);
        due.is("13: c is no KIND", x.rules(), -100);
        due.is("12: lowest first", x.feed(0x3B74756320646572L, 8), 8);
        due.is("13: red cut;", x.rules(), 1);
        due.is("12: what is above n counts nothing", x.feed(0xFFFFFF3B74756320L, 5), 5);
        due.is("12: and a byte above 127", x.feed(-1L, 8), 13);
        due.is("13: no KIND", x.rules(), -101);
    }

    private static void howMany() {
        KiteSummons x = new KiteSummons();
        due.is("13: no bytes", x.rules(), 0);
        due.is("13: blanks", Due.told(x, "   "), 0);
        due.is("13: one", Due.told(x, "kite serve;"), 1);
        due.is("13: in place of all", Due.told(x, " red hold ; box cut;"), 2);
        due.is("13: eight", Due.told(x, "kite cut;red cut;heavy cut;judge cut;box cut;old cut;kite hold;kite serve;"), 8);
        due.is("13: eight", x.many(1), 8);
        due.is("13: many blanks", Due.told(x, "kite   if  1<2   cut  ;  "), 1);
        due.is("13: no blanks", Due.told(x, "kite if not(not 1=2and(far>3or name<2))and 3<4cut;old cut;"), 2);
        due.is("13: nots", Due.told(x, "kite if not not not not not not 1=1 cut;"), 1);
        due.is("13: none", x.rules(), 0);
        due.is("13: none", x.many(1), 0);
    }

    private static void fault(String text, int place) {
        KiteSummons x = new KiteSummons();
        due.is("13: told ahead", Due.told(x, "kite hold;box cut;"), 2);
        due.is("13: FAULT of " + text, Due.told(x, text), -100 - place);
        due.is("13: THE RULES stay", x.many(1), 2);
        due.is("13: THE TAPE is used up", x.many(5), 0);
    }

    private static void faults() {
        fault(";", 0);
        fault("  serve;", 2);
        fault("kites cut;", 0);
        fault("kit cut;", 0);
        fault("kite", 4);
        fault("kite  ", 6);
        fault("kite;", 4);
        fault("kite cut", 8);
        fault("kite cut  ", 10);
        fault("kite cut,", 8);
        fault("kite cut kite", 9);
        fault("kite cut;;", 9);
        fault("kite cut; 7", 10);
        fault("kitecut;", 0);
        fault("kite if cut;", 8);
        fault("kite if 1 cut;", 10);
        fault("kite if 1 = cut;", 12);
        fault("kite if 1 = 1;", 13);
        fault("kite if 1 = 1 = 1 cut;", 14);
        fault("kite if 1 == 1 cut;", 11);
        fault("kite if gust = red cut;", 15);
        fault("kite if and 1=1 cut;", 8);
        fault("kite if 1=1 and or 2=2 cut;", 16);
        fault("kite if 1=1 not 2=2 cut;", 12);
        fault("kite if 1 not = 2 cut;", 10);
        fault("kite if 1=1 if 2=2 cut;", 12);
        fault("kite if not cut;", 12);
        fault("kite if () cut;", 9);
        fault("kite if (1=1 cut;", 13);
        fault("kite if 1=1) cut;", 11);
        fault("kite if (1)=1 cut;", 10);
        fault("kite if (1=1) = 1 cut;", 14);
        fault("kite if (1=1", 12);
        fault("kite if 1=1", 11);
        fault("kite if", 7);
        fault("kite if 1", 9);
        fault("kite if 1=", 10);
        fault("kite if 1=1 and", 15);
        fault("kite if 1=1 serve", 17);
        fault("kite if 1=1 (2=2) cut;", 12);
        fault("kite hold cut;", 10);
        fault("if 1=1 cut;", 0);
        fault("old cut\t;", 7);
        fault("old cut" + (char) 160 + ";", 7);
        fault("Old cut;", 0);
        fault("old cut; heavy", 14);
        fault("red if strings=1 cut;", 7);
        fault("red if numb=1 cut;", 7);
    }

    private static void faultsOfRows() {
        fault("red if 12345 = 1 cut;", 7);
        fault("red if 00001 = 1 cut;", 7);
        fault("red if 1 = 12345 cut;", 11);
        fault("red 12345 cut;", 4);
        fault("red if 99991 2345 = 1 cut;", 7);
        fault("red if 9999 1 = 1 cut;", 12);
        fault("red if ((((1=1)))) cut;", 10);
        fault("red if ((( (1=1)))) cut;", 11);
        fault("red if (((1=1 and (2=2)))) cut;", 18);
        fault("kite cut;kite cut;kite cut;kite cut;kite cut;kite cut;kite cut;kite cut; red cut;", 73);
        fault("kite cut;kite cut;kite cut;kite cut;kite cut;kite cut;kite cut;kite cut;;", 72);
        fault("kite cut;kite cut;kite cut;kite cut;kite cut;kite cut;kite cut;kite cut; red", 73);
        KiteSummons x = new KiteSummons();
        due.is("13: three (", Due.told(x, "red if (((1=1)))and((not(1=2)))or(1=1) cut;"), 1);
        due.is("13: 9999", Due.told(x, "red if 9999 = 0000 cut;"), 1);
    }

    private static void tapeIsUsedUp() {
        KiteSummons x = new KiteSummons();
        Due.feed(x, "kite c");
        Due.feed(x, "ut;");
        due.is("13: parts are one TEXT", x.rules(), 1);
        due.is("13: used up", x.many(5), 0);
        Due.feed(x, "kite");
        due.is("13: more must come", x.rules(), -104);
        Due.feed(x, " cut;");
        due.is("13: nothing is left of it", x.rules(), -101);
        due.is("13: 200 bytes of their own", Due.told(x, ";".repeat(200)), -100);
        due.is("13: 200 digits", Due.told(x, "7".repeat(200)), -100);
        due.is("13: 200 letters", Due.told(x, "k".repeat(200)), -100);
        StringBuilder full = new StringBuilder("kite if ");
        for (int i = 0; i < 36; i++) {
            full.append("1=1or");
        }
        full.append(" 1=2 cut   ;");
        due.is("13: 200 bytes", full.length(), 200);
        due.is("13: all are read", Due.told(x, full.toString()), 1);
        due.is("13: and what ends them", Due.told(x, full.substring(0, 199)), -299);
    }

    /** What was told once leaves no room taken. */
    private static void toldOften() {
        KiteSummons x = Due.county();
        String no = "kite if " + "1=2 or ".repeat(20) + "1=3 cut;";
        String fault = "kite if " + "1=2 or ".repeat(20) + "1=3 cut";
        String yes = "kite if " + "1=2 or ".repeat(20) + "1=1 hold;";
        for (int i = 0; i < 5; i++) {
            due.is("13: told once more", Due.told(x, no), 1);
            due.is("13: WILL", x.kiteOf(0, 8), 0);
            due.is("13: told once more", Due.told(x, yes), 1);
            due.is("13: WILL", x.kiteOf(0, 8), 1);
            due.is("13: a FAULT", Due.told(x, fault), -100 - fault.length());
            due.is("13: WILL as it was", x.kiteOf(0, 8), 1);
        }
    }

    private static void will(String text, int k, int will) {
        KiteSummons x = Due.county();
        x.kite(3, 34, 4, 1);
        if (Due.told(x, text) < 0) {
            due.is("13: a FAULT in " + text, 1, 0);
        }
        due.is("13: WILL of KITE " + k + " by " + text, x.kiteOf(k, 8), will);
    }

    /** Who is told by the RULES of a KIND: it, and those under it. */
    private static void kinds() {
        String[] names = {"kite", "red", "heavy", "judge", "box", "old"};
        int[] kinds = {1, 2, 4, 5, 3};
        int[] above = {-1, 0, 0, 2, 0, 4};
        for (int name = 0; name < 6; name++) {
            for (int k = 0; k < 5; k++) {
                boolean isTold = name == kinds[k] || name == 0 || name == above[kinds[k]];
                will(names[name] + " cut;", k, isTold ? 2 : 0);
            }
        }
        will("kite hold;kite cut;", 0, 1);
        will("red cut;kite hold;", 0, 2);
        will("red cut;kite hold;", 1, 1);
        will("red if 1=2 cut;kite hold;", 0, 1);
        will("kite serve;kite hold;", 0, 0);
        will("", 0, 0);
    }

    private static void conditions() {
        String[] yes = {"1=1", "1<2", "2>1", "not 1=2", "not not 1=1", "1=1 and 2=2", "1=2 or 2=2", "1=1 or 1=2",
            "1=1 or 1=2 and 1=3", "1=2 and 1=3 or 1=1", "not 1=2 and 1=1", "not 1=1 or 1=1", "not(1=1 and 1=2)",
            "(1=1 or 1=2) and (1=2 or 1=1)", "not (not (1=1))", "1=1 and not 1=2 and not (1=2 or 1=3)",
            "1=1 and 1=2 or 1=1 and 1=1", "0010=10", "9999>9998", "(1=2 or (1=2 or (1=1)))"};
        String[] no = {"1=2", "2<1", "1>2", "1<1", "1>1", "not 1=1", "not not 1=2", "1=1 and 1=2", "1=2 and 1=1",
            "1=2 or 1=3", "(1=1 or 1=2) and 1=3", "1=3 and (1=2 or 1=1)", "not (1=1 or 1=2)", "not 1=1 and 1=2",
            "not (1=1 and not 1=2)", "1=1 and 1=1 and 1=2", "1=2 or 1=3 or 1=4", "not (1=2 and 1=3 or 1=1)"};
        for (String condition : yes) {
            will("kite if " + condition + " cut;", 0, 2);
        }
        for (String condition : no) {
            will("kite if " + condition + " cut;", 0, 0);
        }
    }

    /** FACTS of the KITE that is told, when it is told: behind the drift. */
    private static void facts() {
        will("kite if gust=0 cut;", 2, 2);
        will("kite if string=5 cut;", 2, 2);
        will("kite if far=13 cut;", 2, 2);
        will("kite if name=2 cut;", 2, 2);
        will("kite if number=2 cut;", 2, 2);
        will("kite if 1<number cut;", 1, 0);
        will("kite if name=number cut;", 1, 2);
        KiteSummons x = new KiteSummons();
        x.kite(2, 8, 9, 0);
        x.kite(1, 17, 8, 3);
        x.farm(3, 0, 20);
        x.farm(0, 0, 63);
        Due.told(x, "red if string=6 and far=1 and name=3 and number=1 and gust=0 cut;kite hold;");
        due.is("13: by FACTS behind the drift", x.gust(), 1);
        due.is("13: it lies", x.state(4), 1);
        due.is("13: it isn't SERVED", x.state(5), 0);
    }
}
