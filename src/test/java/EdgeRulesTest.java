/** The sentences of Terms 2 and of promises 12 and 13 that name a boundary; each is quoted at its test. */
public final class EdgeRulesTest {
    private static final Due due = new Due();
    private static final String EIGHT = "kite cut;red cut;box cut;old cut;heavy cut;judge cut;kite hold;red hold;";

    public static void main(String[] args) {
        tapeOf200();
        tapeIsUsedUp();
        feedBounds();
        lowestFirst();
        everyByte();
        noText();
        eightRules();
        ninthRule();
        names();
        lettersAToZ();
        digits0To9();
        rowsAsLongAsTheyGo();
        numbers();
        blanks();
        otherBlanks();
        threeOpen();
        fourthOpen();
        faultAtTheEnd();
        faultsByTheWay();
        faultOfALongText();
        rowsToTheLastByte();
        longTextsOften();
        rulesStayByAFault();
        inPlaceOfAll();
        signs();
        factsLeast();
        factsMost();
        factsThen();
        kindsAbove();
        manyNots();
        andBeforeOr();
        due.end("EdgeRulesTest");
    }

    /** THE FAULT of a text, by an object that knows two RULES; they stay, and THE TAPE is used up. */
    private static void fault(String text, int place) {
        KiteSummons x = new KiteSummons();
        Due.told(x, "kite hold; red cut;");
        due.is("13: FAULT of \"" + text + "\"", Due.told(x, text), -100 - place);
        due.is("13: RULES of before", x.many(1), 2);
        due.is("13: THE TAPE is used up", x.many(5), 0);
    }

    private static void rules(String text, int many) {
        KiteSummons x = new KiteSummons();
        due.is("13: RULES of \"" + text + "\"", Due.told(x, text), many);
        due.is("13: as many", x.many(1), many);
    }

    /** Whether a condition holds for KITE 0 of a county. */
    private static void holds(KiteSummons x, int k, String condition, boolean isSo) {
        due.is("13: no FAULT in \"" + condition + "\"", Due.told(x, "kite if " + condition + " cut;"), 1);
        due.is("13: \"" + condition + "\" of KITE " + k, x.kiteOf(k, 8), isSo ? 2 : 0);
    }

    private static void holds(String condition, boolean isSo) {
        KiteSummons x = new KiteSummons();
        x.kite(1, 0, 0, 0);
        holds(x, 0, condition, isSo);
    }

    /** "THE TAPE takes bytes, 200 at most"; "FULL: more than 200". */
    private static void tapeOf200() {
        for (int n = 1; n <= 8; n++) {
            KiteSummons x = new KiteSummons();
            int has = 0;
            while (has + n <= 200) {
                has += n;
                due.is("12: how many it has", x.feed(0, n), has);
            }
            due.is("12: more than 200", x.feed(0, n), -2);
            due.is("12: it has as many", x.many(5), has);
            if (has < 200) {
                due.is("12: just 200", x.feed(0, 200 - has), 200);
            }
            for (int more = 1; more <= 8; more++) {
                due.is("12: FULL", x.feed(0, more), -2);
            }
            due.is("12: 200 yet", x.many(5), 200);
            due.bad("12: BAD ahead of FULL", v -> x.feed(0, v), -1, 0, 9);
        }
    }

    /** "rules() uses it up": by RULES, by a FAULT, by none; then there is room for 200 again. */
    private static void tapeIsUsedUp() {
        KiteSummons x = new KiteSummons();
        String[] texts = {"kite cut;", "kite cut", "", "  "};
        int[] answers = {1, -108, 0, 0};
        for (int i = 0; i < texts.length; i++) {
            due.is("13: rules", Due.told(x, texts[i]), answers[i]);
            due.is("13: used up", x.many(5), 0);
            due.is("13: nothing is left", x.rules(), 0);
        }
        for (int i = 1; i <= 25; i++) {
            due.is("12: room again", x.feed(0x2020202020202020L, 8), 8 * i);
        }
        due.is("12: FULL again", x.feed(0, 1), -2);
        due.is("13: 200 blanks", x.rules(), 0);
        due.is("12: from the first on", x.feed(0, 1), 1);
    }

    /** "n bytes (1 to 8)"; "BAD". */
    private static void feedBounds() {
        KiteSummons x = new KiteSummons();
        due.bad("12: n", n -> x.feed(-1L, n), -1, 0, 9);
        due.is("12: none came", x.many(5), 0);
        due.is("12: the least", x.feed(-1L, 1), 1);
        due.is("12: the most", x.feed(-1L, 8), 9);
    }

    /** "the lowest of eight first": of n bytes no more than n, also of a number below 0. */
    private static void lowestFirst() {
        String text = "old cut;";
        long eight = 0;
        for (int i = 7; i >= 0; i--) {
            eight = eight << 8 | text.charAt(i);
        }
        KiteSummons x = new KiteSummons();
        x.feed(eight, 8);
        due.is("13: eight at once", x.rules(), 1);
        for (int n = 1; n <= 7; n++) {
            x.feed(eight | -1L << 8 * n, n);
            x.feed(eight >>> 8 * n | -1L << 8 * (8 - n), 8 - n);
            due.is("13: as " + n + " and " + (8 - n), x.rules(), 1);
        }
        x.feed(eight, 7);
        due.is("13: seven of them", x.rules(), -107);
        x.feed(0x8000000000000020L, 8);
        due.is("13: the highest is the last, and no blank", x.rules(), -101);
    }

    /** Each byte but a blank that begins a TEXT of its own can't stand there: 0 to 255. */
    private static void everyByte() {
        KiteSummons x = new KiteSummons();
        for (int b = 0; b < 256; b++) {
            x.feed(b, 1);
            due.is("13: byte " + b, x.rules(), b == 32 ? 0 : -100);
        }
        KiteSummons y = new KiteSummons();
        String ends = ";";
        for (int b = 0; b < 256; b++) {
            boolean isOfTheName = b >= 'a' && b <= 'z';
            due.is("13: byte " + b + " behind cut", Due.told(y, "red cut" + (char) b),
                b == ends.charAt(0) ? 1 : b == 32 ? -108 : isOfTheName ? -104 : -107);
        }
    }

    /** "TEXT: { .. }": there may be none. */
    private static void noText() {
        KiteSummons x = new KiteSummons();
        x.kite(1, 0, 0, 0);
        due.is("13: no bytes at first", x.rules(), 0);
        Due.told(x, "kite cut;");
        due.is("13: no bytes", x.rules(), 0);
        due.is("13: no RULES", x.many(1), 0);
        due.is("13: none tells", x.kiteOf(0, 8), 0);
        Due.told(x, "kite cut;");
        due.is("13: one blank", Due.told(x, " "), 0);
        due.is("13: no RULES", x.many(1), 0);
        due.is("13: none tells", x.kiteOf(0, 8), 0);
    }

    /** "8 RULES at most": the eighth tells. */
    private static void eightRules() {
        rules(EIGHT, 8);
        rules(EIGHT + "  ", 8);
        rules("kite cut;red cut;box cut;old cut;heavy cut;judge cut;kite hold;", 7);
        KiteSummons x = new KiteSummons();
        x.kite(1, 0, 0, 0);
        due.is("13: eight", Due.told(x, "box cut;box cut;box cut;box cut;box cut;box cut;box cut;red hold;"), 8);
        due.is("13: the eighth tells", x.kiteOf(0, 8), 1);
    }

    /** "(.. the first NAME of the ninth RULE, too)". */
    private static void ninthRule() {
        int length = EIGHT.length();
        fault(EIGHT + "kite cut;", length);
        fault(EIGHT + " kite cut;", length + 1);
        fault(EIGHT + "   kite", length + 3);
        fault(EIGHT + "x", length);
        fault(EIGHT + " 7", length + 1);
        fault(EIGHT + ";", length);
        fault("kite cut;red cut;box cut;old cut;heavy cut;judge cut;kite hold; red hold", 72);
    }

    /** "NAMES are rows of letters": no more and no fewer than a NAME's own. */
    private static void names() {
        String[] kinds = {"kite", "red", "heavy", "judge", "box", "old"};
        for (String kind : kinds) {
            rules(kind + " cut;", 1);
            fault(kind.substring(1) + " cut;", 0);
            fault(kind.substring(0, kind.length() - 1) + " cut;", 0);
            fault(kind + "s cut;", 0);
            fault("a" + kind + " cut;", 0);
            fault(kind.charAt(0) + " " + kind.substring(1) + " cut;", 0);
            fault("red " + kind + ";", 4);
            fault("red if " + kind + "=1 cut;", 7);
        }
        String[] dos = {"serve", "hold", "cut"};
        for (String one : dos) {
            rules("red " + one + ";", 1);
            fault("red " + one.substring(1) + ";", 4);
            fault("red " + one.substring(0, one.length() - 1) + ";", 4);
            fault("red " + one + "e;", 4);
            fault(one + " cut;", 0);
            fault("red if 1=" + one + " cut;", 9);
        }
        String[] facts = {"gust", "string", "far", "name", "number"};
        for (String fact : facts) {
            rules("red if " + fact + "=1 cut;", 1);
            rules("red if 1<" + fact + " cut;", 1);
            fault("red if " + fact.substring(1) + "=1 cut;", 7);
            fault("red if " + fact.substring(0, fact.length() - 1) + "=1 cut;", 7);
            fault("red if 1=" + fact + "s cut;", 9);
            fault(fact + " cut;", 0);
            fault("red " + fact + ";", 4);
        }
        String[] joints = {"if", "or", "and", "not"};
        for (String joint : joints) {
            fault(joint + " cut;", 0);
            fault("red if 1=" + joint + " cut;", 9);
        }
        fault("red iff 1=1 cut;", 4);
        fault("red if nott 1=1 cut;", 7);
        fault("red if 1=1 andd 1=1 cut;", 11);
        fault("red if 1=1 o 1=1 cut;", 11);
    }

    /** "letters a to z": neither what stands ahead of a, nor what stands behind z, nor great ones. */
    private static void lettersAToZ() {
        fault("`red cut;", 0);
        fault("{red cut;", 0);
        fault("red` cut;", 3);
        fault("red{ cut;", 3);
        fault("Red cut;", 0);
        fault("reD cut;", 0);
        fault("red cuT;", 4);
        fault("RED cut;", 0);
        fault("red cut" + (char) ('t' + 128), 7);
        fault("a cut;", 0);
        fault("z cut;", 0);
        fault("red az;", 4);
    }

    /** "rows of digits": 0 to 9, neither what stands ahead of 0, nor what stands behind 9. */
    private static void digits0To9() {
        fault("red if /=1 cut;", 7);
        fault("red if :=1 cut;", 7);
        fault("red if 1/=1 cut;", 8);
        fault("red if 9:=1 cut;", 8);
        fault("red if -1=1 cut;", 7);
        fault("red if 1.5=1 cut;", 8);
        for (int digit = 0; digit <= 9; digit++) {
            holds(digit + "=000" + digit, true);
            holds(digit + "<" + (digit + 1), true);
        }
    }

    /** "both as long as they go": a NAME ends at a digit, a NUMBER at a letter, with no blank. */
    private static void rowsAsLongAsTheyGo() {
        rules("red if1=1and2=2or3=3cut;", 1);
        rules("red if not(gust=1)or not 1<far and name>2cut;box cut;", 2);
        fault("redif 1=1 cut;", 0);
        fault("red if 1=farcut;", 9);
        fault("red if 1=far1 cut;", 12);
        fault("red1 cut;", 3);
        fault("red if not1=1 cut1;", 17);
        fault("red if 1=1a cut;", 10);
        fault("red ifnot 1=1 cut;", 4);
        fault("red if 12 34=1 cut;", 10);
        fault("red if fa r=1 cut;", 7);
        fault("red if 1=1 and or cut;", 15);
    }

    /** "N are NUMBERS 0 to 9999", "digits (1 to 4)": "a NUMBER of more digits" can't stand. */
    private static void numbers() {
        holds("0=0000", true);
        holds("9999=9999", true);
        holds("9998<9999", true);
        holds("9999>9998", true);
        holds("0<1", true);
        holds("1000=0999", false);
        fault("red if 00000=0 cut;", 7);
        fault("red if 10000=0 cut;", 7);
        fault("red if 99999=0 cut;", 7);
        fault("red if 0=00000 cut;", 9);
        fault("red if 0=10000 cut;", 9);
        fault("red if 0<123456789012345 cut;", 9);
        fault("red if 0=1 and 4294967296=0 cut;", 15);
        fault("10000", 0);
    }

    /** "blanks (32) part them, and stand elsewhere as one likes": none, one, many, ahead and behind. */
    private static void blanks() {
        rules("red cut;", 1);
        rules("   red   cut   ;   ", 1);
        rules("red if not(1<2)and(gust>far)cut;", 1);
        rules(" red  if  not  (  1  <  2  )  and  (  gust  >  far  )  cut  ; ", 1);
        rules("red cut;box cut;", 2);
        rules("red cut ; box cut ;", 2);
        fault("redcut;", 0);
        fault("red if 1 2=3 cut;", 9);
        fault("r ed cut;", 0);
        fault("red c ut;", 4);
    }

    /** Other bytes that look like blanks are none. */
    private static void otherBlanks() {
        int[] others = {0, 9, 10, 11, 12, 13, 31, 33, 127, 128, 133, 160, 255};
        for (int other : others) {
            fault("red" + (char) other + "cut;", 3);
            fault((char) other + "red cut;", 0);
            fault("red cut;" + (char) other, 8);
            fault("red cut; " + (char) other, 9);
        }
    }

    /** "At most 3 "(" are open within one another": three, and any number side by side. */
    private static void threeOpen() {
        rules("red if (((1=1))) cut;", 1);
        rules("red if not(not(not(1=1))) cut;", 1);
        rules("red if (1=1)and(1=1)and(1=1)and(1=1)and(1=1) cut;", 1);
        rules("red if (((1=1)))or(((1=1)))or(((1=1))) cut;", 1);
        rules("red if (1=1 and (1=1 and (1=1) and (1=1)) and (1=1)) cut;", 1);
        rules("red if (((1=1))) cut; box if (((1=1))) cut;", 2);
        holds("(((1=1)))", true);
        holds("not(not(not(1=1)))", false);
    }

    /** "(.. the fourth "(" .. too)". */
    private static void fourthOpen() {
        fault("red if ((((1=1)))) cut;", 10);
        fault("red if ( ( ( (1=1)))) cut;", 13);
        fault("red if (((not(1=1)))) cut;", 13);
        fault("red if (((1=1 and (1=1)))) cut;", 18);
        fault("red if (((1=1)or((1=1)))) cut;", 17);
        fault("red if ((((", 10);
        fault("red if (((", 10);
        fault("red if ((1=1)and((1=1)and(1=1))) cut; red if ((((1=1)))) cut;", 48);
    }

    /** "or the end (how many bytes there are), if more must come": behind each part of a RULE, blanks counted. */
    private static void faultAtTheEnd() {
        String[] parts = {"red", "red if", "red if not", "red if (", "red if 1", "red if 1<", "red if 1<2", "red if (1<2",
            "red if (1<2)", "red if 1<2 and", "red if 1<2 or", "red if 1<2 or not", "red if 1<2 cut", "red cut",
            "box cut; red", "red if far", "red if far =", "red if far = name"};
        for (String part : parts) {
            fault(part, part.length());
            fault(part + " ", part.length() + 1);
            fault(part + "     ", part.length() + 5);
        }
    }

    /** "the first byte of the first NAME, NUMBER or other byte that can't stand there". */
    private static void faultsByTheWay() {
        fault(" ;", 1);
        fault("red;", 3);
        fault("red cut cut;", 8);
        fault("red cut 1", 8);
        fault("red cut;;", 8);
        fault("red if ;", 7);
        fault("red if cut;", 7);
        fault("red if 1 cut;", 9);
        fault("red if 1<cut;", 9);
        fault("red if 1<<2 cut;", 9);
        fault("red if <2 cut;", 7);
        fault("red if 1<2;", 10);
        fault("red if 1<2=3 cut;", 10);
        fault("red if 1<2 3<4 cut;", 11);
        fault("red if 1<2 and cut;", 15);
        fault("red if 1<2 or ) cut;", 14);
        fault("red if 1<2) cut;", 10);
        fault("red if (1<2)) cut;", 12);
        fault("red if ((1<2) cut;", 14);
        fault("red if () cut;", 8);
        fault("red if (not) cut;", 11);
        fault("red if 1<2 not cut;", 11);
        fault("red if 1 not <2 cut;", 9);
        fault("red if (1)<2 cut;", 9);
        fault("red if (1<2)<3 cut;", 12);
        fault("red if (1<2)(1<2) cut;", 12);
        fault("red if 1<2 if 1<2 cut;", 11);
        fault("red cut if 1<2;", 8);
        fault("red not cut;", 4);
        fault("red (cut);", 4);
        fault("red box cut;", 4);
        fault("xyz 12345 ((((", 0);
        fault("red xyz 12345", 4);
    }

    /** A TEXT of all 200 bytes: its last byte, and the end behind it. */
    private static void faultOfALongText() {
        String begin = "red if " + "1=1or ".repeat(30) + "1=2  cut";
        String text = begin + " ".repeat(199 - begin.length());
        due.is("T2: 199 bytes", text.length(), 199);
        rules(text + ";", 1);
        fault(text + " ", 200);
        fault(text + "!", 199);
        fault(text, 199);
        fault("x" + text, 0);
        fault(" ".repeat(199) + "x", 199);
        fault(" ".repeat(196) + "kite", 200);
        fault("(".repeat(200), 0);
        fault("red if " + "not ".repeat(48) + " ", 200);
        fault("red if " + "9".repeat(193), 7);
        fault("red if " + "a".repeat(193), 7);
        rules(" ".repeat(192) + "red cut;", 1);
    }

    /** A row that ends with THE TAPE's 200th byte, and would go on: all beginnings of all NAMES, and NUMBERS. */
    private static void rowsToTheLastByte() {
        String[] names = {"kite", "red", "heavy", "judge", "box", "old"};
        for (String name : names) {
            for (int i = 1; i <= name.length(); i++) {
                fault(" ".repeat(200 - i) + name.substring(0, i), i == name.length() ? 200 : 200 - i);
            }
        }
        String[] others = {"serve", "hold", "cut", "gust", "string", "far", "number", "name", "if", "or", "and", "not", "9999",
            "99999"};
        for (String other : others) {
            for (int i = 1; i <= other.length(); i++) {
                fault(" ".repeat(200 - i) + other.substring(0, i), 200 - i);
            }
        }
        fault(" ".repeat(192) + "red if 9", 200);
        fault(" ".repeat(188) + "red if 99999", 195);
        fault(" ".repeat(193) + "red cut", 200);
    }

    /** THE TAPE may be told as often as one likes: each time there is room for the longest TEXT. */
    private static void longTextsOften() {
        String end = " cut;";
        KiteSummons x = new KiteSummons();
        x.kite(1, 0, 0, 0);
        for (int time = 0; time < 8; time++) {
            boolean isSo = time % 2 == 0;
            String text = "red if " + "1=2or ".repeat(30) + (isSo ? "1=1" : "1=3") + end;
            due.is("13: told once more", Due.told(x, text), 1);
            due.is("13: it tells", x.kiteOf(0, 8), isSo ? 2 : 0);
            due.is("13: a FAULT", Due.told(x, text + ";"), -100 - text.length());
        }
    }

    /** "Answers below 0 .. such a call changes nothing (but that THE TAPE is used up by rules())". */
    private static void rulesStayByAFault() {
        KiteSummons x = new KiteSummons();
        x.kite(1, 0, 0, 0);
        x.kite(4, 0, 0, 0);
        Due.told(x, "red if 1=1 hold; box if 2=2 cut;");
        String[] faults = {"kite if 1=2 serve; red", "red cut; red cut; x", EIGHT + "old", "kite if ((((", "!"};
        for (String fault : faults) {
            due.is("13: a FAULT", Due.told(x, fault), -100 - (fault.endsWith("red") ? fault.length()
                : fault.equals("!") ? 0 : fault.endsWith("old") ? EIGHT.length() : fault.length() - 1));
            due.is("13: how many RULES", x.many(1), 2);
            due.is("13: the first tells", x.kiteOf(0, 8), 1);
            due.is("13: the second tells", x.kiteOf(1, 8), 2);
        }
    }

    /** "THE TAPE tells THE RULES (in place of all): how many": also fewer than before. */
    private static void inPlaceOfAll() {
        KiteSummons x = new KiteSummons();
        x.kite(1, 0, 0, 0);
        due.is("13: eight", Due.told(x, EIGHT), 8);
        due.is("13: cut", x.kiteOf(0, 8), 2);
        due.is("13: one", Due.told(x, "red if 1=2 cut;"), 1);
        due.is("13: none of the others tells", x.kiteOf(0, 8), 0);
        due.is("13: eight again", Due.told(x, EIGHT), 8);
        due.is("13: cut again", x.kiteOf(0, 8), 2);
    }

    /** "SIGN: < | = | >": one less, as much, one more. */
    private static void signs() {
        String[] left = {"4", "5", "6"};
        boolean[][] isSo = {{true, false, false}, {false, true, false}, {false, false, true}};
        for (int i = 0; i < 3; i++) {
            for (int sign = 0; sign < 3; sign++) {
                holds(left[i] + "<=>".charAt(sign) + "5", isSo[sign][i]);
            }
        }
    }

    /** FACTS at their least: GUST 0, STRING 0, FAR 0, NAME 0, number 0. */
    private static void factsLeast() {
        KiteSummons x = new KiteSummons();
        x.kite(1, 0, 0, 0);
        for (String fact : new String[] {"gust", "string", "far", "name", "number"}) {
            holds(x, 0, fact + "=0", true);
            holds(x, 0, fact + "<1", true);
            holds(x, 0, fact + ">0", false);
            holds(x, 0, "0<" + fact, false);
        }
    }

    /** FACTS at their most: GUST 16, STRING 9, FAR 14, NAME 5, number 5. */
    private static void factsMost() {
        KiteSummons x = Due.still();
        x.ends(16);
        x.farm(5, 0, 63);
        for (int k = 0; k < 6; k++) {
            x.kite(1, 0, 9, 5);
        }
        for (int gust = 0; gust < 16; gust++) {
            x.gust();
        }
        String[] facts = {"gust", "string", "far", "name", "number"};
        int[] most = {16, 9, 14, 5, 5};
        for (int i = 0; i < 5; i++) {
            holds(x, 5, facts[i] + "=" + most[i], true);
            holds(x, 5, facts[i] + ">" + (most[i] - 1), true);
            holds(x, 5, facts[i] + "<" + most[i], false);
            holds(x, 5, facts[i] + "=9999", false);
        }
    }

    /** "the GUST that goes by; its STRING, how FAR it is from its FARM, its NAME then": behind (1), GUST not yet 1 more. */
    private static void factsThen() {
        String[] conditions = {"gust=0", "gust=1", "string=7", "string=9", "far=0", "far=2", "name=3", "number=1"};
        boolean[] isSo = {true, false, true, false, true, false, true, true};
        for (int i = 0; i < conditions.length; i++) {
            KiteSummons x = new KiteSummons();
            x.farm(3, 0, 2);
            x.kite(1, 63, 0, 0);
            x.kite(1, 0, 9, 3);
            Due.told(x, "kite if " + conditions[i] + " cut;");
            due.is("T2: told when " + conditions[i], x.gust(), isSo[i] ? 1 : 15);
        }
    }

    /** "whose KIND is its or above it": and none that is beside it, or under it. */
    private static void kindsAbove() {
        String[] names = {"kite", "red", "heavy", "box", "judge", "old"};
        boolean[][] tells = {{true, true, true, true, true}, {true, false, false, false, false},
            {false, true, true, false, false}, {false, false, false, true, true}, {false, false, true, false, false},
            {false, false, false, false, true}};
        KiteSummons x = new KiteSummons();
        for (int kind = 1; kind <= 5; kind++) {
            x.kite(kind, 0, 0, 0);
        }
        for (int name = 0; name < 6; name++) {
            Due.told(x, names[name] + " cut;");
            for (int k = 0; k < 5; k++) {
                due.is("T2: " + names[name] + " tells KIND " + (k + 1), x.kiteOf(k, 8), tells[name][k] ? 2 : 0);
            }
        }
    }

    /** "{ not }": none, one, two, as many as THE TAPE takes. */
    private static void manyNots() {
        holds("1=1", true);
        holds("not 1=1", false);
        holds("not not 1=1", true);
        holds("not ".repeat(45) + "1=1", false);
        holds("not ".repeat(44) + "1=1", true);
        holds("not not not(not(not(1=1)))", false);
    }

    /** "COND: ALL { or ALL }", "ALL: ONE { and ONE }": one of each, and as many as THE TAPE takes. */
    private static void andBeforeOr() {
        holds("1=1 or 1=1 and 1=2", true);
        holds("1=2 and 1=1 or 1=1", true);
        holds("1=2 or 1=1 and 1=2", false);
        holds("1=2 and 1=1 or 1=2", false);
        holds("1=1 and 1=2 or 1=2 and 1=1", false);
        holds("(1=1 or 1=1) and 1=2", false);
        holds("1=2 and (1=1 or 1=1)", false);
        holds("not 1=2 and 1=2", false);
        holds("not(1=2 and 1=2)", true);
        holds("1=2 " + "or 1=2 ".repeat(24) + "or 1=1", true);
        holds("1=2 " + "or 1=2 ".repeat(24) + "or 1=2", false);
        holds("1=1 " + "and 1=1 ".repeat(21) + "and 1=1", true);
        holds("1=1 " + "and 1=1 ".repeat(21) + "and 1=2", false);
        holds("1=2 " + "and 1=1 ".repeat(21) + "and 1=1", false);
    }
}
