import java.util.Arrays;

/** A county whose summonses are carried by kites; ../shared/DOC.md says what each call answers. */
public final class KiteSummons {
    public static final int BAD = -1, FULL = -2, NONE = -3, STATE = -4;

    private static final int NO_ROW = -9;
    private static final int NOTHING = -11;
    private static final int OUTSIDE = -12;
    private static final int OTHER_SORT = -13;
    private static final int BELOW_0 = -14;
    private static final int PARTED_BY_0 = -15;

    private static final int MOST_KITES = 6;
    private static final int FARMS = 6;
    private static final int LAST_CELL = 63;
    private static final int LAST_PLACE = 7;
    private static final int GUSTS = 16;
    private static final int MOST_WIND = 15;
    private static final int MOST_STRING = 9;
    private static final int MOST_COMES = 14;
    private static final int MOST_REPORTS = 6;
    private static final int LONGEST_PLAN = 4;
    private static final int NOBODY = -1;

    private static final int KITE = 0;
    private static final int RED = 1;
    private static final int HEAVY = 2;
    private static final int JUDGE = 3;
    private static final int BOX = 4;
    private static final int OLD = 5;
    private static final int KINDS = 6;

    private static final int SERVE = 0;
    private static final int HOLD = 1;
    private static final int CUT = 2;

    private static final int MOST_RULES = 8;
    private static final int MOST_BYTES = 200;
    private static final int MOST_OPEN = 3;

    /** Names that THE RULES know, each told by its place here: six KINDS, three DOs, five FACTS, four joints. */
    private static final String WORDS =
        "kite red heavy judge box old serve hold cut gust string far name number if or and not ";
    private static final int SERVE_WORD = 6;
    private static final int FIRST_FACT_WORD = 9;
    private static final int LAST_FACT_WORD = 13;
    private static final int IF = 14;
    private static final int OR = 15;
    private static final int AND = 16;
    private static final int NOT = 17;
    private static final int SEMICOLON = 20;
    private static final int OPEN = 21;
    private static final int CLOSE = 22;
    private static final int LESS = 23;
    private static final int EQUAL = 24;
    private static final int MORE = 25;
    private static final int STRAY = 26;
    private static final int END_OF_TEXT = 27;
    /** A token from here on is a NUMBER: so much more than this. */
    private static final int NUMBER = 100;
    private static final int MOST_DIGITS = 4;
    private static final int NO_FAULT = -1;

    /** In a rule's code an operand from here on is a FACT: so much more than this. */
    private static final int FACT = 10000;
    private static final int FACTS = 5;

    private static final int ROW_WIDTH = 3;
    private static final int SHEETS = 4;
    private static final int SHELVES = 4;
    private static final int MOST_ITEMS = 40;
    private static final int MOST_TAKEN = 20;
    private static final int MOST_BODIES = 30;
    private static final int MISSING = -1;
    private static final int BYTES = 0;
    private static final int SHORTS = 1;
    private static final int LAST_SORT = 4;
    private static final int BOOLEANS = 4;
    /** taken() asks for a row by its sort and this. */
    private static final int AS_ROW = 10;
    private static final int HOLDS_KITE = 0;
    private static final int HOLDS_ROW = 1;
    private static final int HOLDS_NOTHING = 2;

    private final int[] bodies = new int[MOST_BODIES];
    private final Kite[] kinds = new Kite[KINDS];
    private final County county;
    private final County kept;
    private final RuleReader reader = new RuleReader();
    private final Plans plans;
    /** What is only tried is tried in this one. */
    private final Sky trial = new Sky();
    private final int[][] rows = new int[LONGEST_PLAN][ROW_WIDTH];
    private final long[][] items = new long[SHEETS][MOST_ITEMS];
    private final int[] sorts = new int[SHEETS];
    private final int[] sizes = new int[SHEETS];
    private final int[] holds = new int[SHELVES];
    /** The number of the KITE on a SHELF, or the sort of the row on it. */
    private final int[] held = new int[SHELVES];
    private final int[] heldItems = new int[SHELVES];
    private boolean isKept = false;
    private int rowCount = 0;
    private int traced = 0;

    public KiteSummons() {
        kinds[KITE] = new Kite(bodies);
        kinds[RED] = new Red(bodies);
        kinds[HEAVY] = new Heavy(bodies);
        kinds[JUDGE] = new Judge(bodies);
        kinds[BOX] = new Box(bodies);
        kinds[OLD] = new Old(bodies);
        county = new County(kinds);
        kept = new County(kinds);
        plans = new Plans(county);
        Arrays.fill(sorts, MISSING);
        Arrays.fill(holds, HOLDS_NOTHING);
    }

    // ---- the moor, kites

    public int kite(int kind, int at, int string, int name) {
        if (!within(kind, RED, OLD) || !within(at, 0, LAST_CELL)
                || !within(string, 0, MOST_STRING) || !within(name, 0, FARMS - 1)) {
            return BAD;
        }
        return county.kites >= MOST_KITES ? FULL : county.addKite(kind, at, string, name);
    }

    public int kiteOf(int k, int what) {
        if (!isKite(k)) {
            return BAD;
        }
        Sky sky = county.sky;
        switch (what) {
            case 0: return county.kind[k];
            case 1: return sky.at[k];
            case 2: return sky.string[k];
            case 3: return county.name[k];
            case 4: return isIn(sky.aloft, k) ? 1 : 0;
            case 5: return isIn(sky.served, k) ? 1 : 0;
            case 6: return county.driftsNow(k);
            case 7: return county.feeOf(k);
            case 8: return county.willOf(sky, k);
            case 9: return county.farFromFarm(sky, k);
            default: return BAD;
        }
    }

    public int change(int k, int what, int v) {
        if (!isKite(k) || !within(v, 0, mostOf(what))) {
            return BAD;
        }
        int was = kiteOf(k, what);
        Sky sky = county.sky;
        switch (what) {
            case 1: sky.at[k] = v; break;
            case 2: sky.string[k] = v; break;
            case 3: county.name[k] = v; break;
            case 4: sky.aloft = withBit(sky.aloft, k, v); break;
            default: sky.served = withBit(sky.served, k, v); break;
        }
        return was;
    }

    /** The most that change() takes for this of a KITE; below 0: it doesn't change this. */
    private static int mostOf(int what) {
        switch (what) {
            case 1: return LAST_CELL;
            case 2: return MOST_STRING;
            case 3: return FARMS - 1;
            case 4:
            case 5: return 1;
            default: return -1;
        }
    }

    public int remake(int k, int kind) {
        if (!isKite(k) || !within(kind, RED, OLD)) {
            return BAD;
        }
        int was = county.kind[k];
        county.kind[k] = kind;
        return was;
    }

    public int wind(int gust, int v) {
        if (!within(gust, 0, GUSTS - 1) || !within(v, 0, MOST_WIND)) {
            return BAD;
        }
        int was = county.wind[gust];
        county.wind[gust] = v;
        return was;
    }

    public int farm(int f, int what, int v) {
        int was = farmOf(f, what);
        if (was == BAD || !within(v, 0, what == 0 ? LAST_CELL : MOST_COMES)) {
            return BAD;
        }
        if (what == 0) {
            county.farmAt[f] = v;
        } else {
            county.comes[f] = v;
        }
        return was;
    }

    public int farmOf(int f, int what) {
        if (!within(f, 0, FARMS - 1) || !within(what, 0, 1)) {
            return BAD;
        }
        return what == 0 ? county.farmAt[f] : county.comes[f];
    }

    public int ends(int v) {
        if (!within(v, 1, GUSTS)) {
            return BAD;
        }
        if (v < county.sky.gust) {
            return STATE;
        }
        int was = county.end;
        county.end = v;
        return was;
    }

    public int anew() {
        Sky sky = county.sky;
        int was = sky.gust;
        sky.gust = 0;
        sky.score = 0;
        sky.aloft = county.allKites();
        sky.served = 0;
        return was;
    }

    public int state(int what) {
        Sky sky = county.sky;
        switch (what) {
            case 0: return sky.gust;
            case 1: return county.end;
            case 2: return sky.score;
            case 3: return county.isOver(sky) ? 1 : 0;
            case 4: return sky.aloft;
            case 5: return sky.served;
            case 6: return county.windOf(sky.gust);
            default: return BAD;
        }
    }

    // ---- the rules

    public int feed(long eight, int n) {
        if (!within(n, 1, 8)) {
            return BAD;
        }
        return reader.length + n > MOST_BYTES ? FULL : reader.take(eight, n);
    }

    public int rules() {
        return reader.readInto(county.rules);
    }

    // ---- gusts

    public int gust() {
        return county.isOver(county.sky) ? STATE : county.goByRest(county.sky);
    }

    public int on(int n) {
        return within(n, 0, GUSTS) ? worthOfRest(n) : BAD;
    }

    /** What the next GUSTS of THE REST are WORTH, so many at most. */
    private int worthOfRest(int n) {
        trial.copy(county.sky);
        return worthOnTrial(n);
    }

    private int worthOnTrial(int n) {
        int worth = 0;
        for (int i = 0; i < n && !county.isOver(trial); i++) {
            worth += county.goByRest(trial);
        }
        return worth;
    }

    public int when(int k) {
        if (!isKite(k)) {
            return BAD;
        }
        trial.copy(county.sky);
        if (!isIn(trial.aloft, k)) {
            return NONE;
        }
        for (int i = 0; i < GUSTS && !county.isOver(trial); i++) {
            county.goByRest(trial);
            if (!isIn(trial.aloft, k)) {
                return trial.gust - 1;
            }
        }
        return NONE;
    }

    public int stringFor(int k) {
        if (!isKite(k)) {
            return BAD;
        }
        int most = -1;
        int least = 0;
        for (int string = 0; string <= MOST_STRING; string++) {
            trial.copy(county.sky);
            trial.string[k] = string;
            int worth = worthOnTrial(GUSTS);
            if (worth > most) {
                most = worth;
                least = string;
            }
        }
        return least;
    }

    public int nameFor(int k) {
        if (!isKite(k)) {
            return BAD;
        }
        int was = county.name[k];
        int most = -1;
        int least = 0;
        for (int name = 0; name < FARMS; name++) {
            county.name[k] = name;
            int worth = worthOfRest(GUSTS);
            if (worth > most) {
                most = worth;
                least = name;
            }
        }
        county.name[k] = was;
        return least;
    }

    // ---- over, cases, circuits

    public int over(int cell) {
        if (!within(cell, 0, LAST_CELL)) {
            return BAD;
        }
        trial.copy(county.sky);
        for (int i = 0; i < GUSTS && !county.isOver(trial); i++) {
            county.goByAct(trial, 0);
            if (county.isSomeAloftAt(trial, cell)) {
                return trial.gust - 1;
            }
        }
        return NONE;
    }

    public int cases(int what) {
        if (what == -1) {
            return county.countCases();
        }
        return isKite(what) ? county.caseOf(what) : BAD;
    }

    public int circuit(int cell, int what) {
        if (!within(cell, 0, LAST_CELL) || !within(what, 0, 1)) {
            return BAD;
        }
        int lying = county.allKites() & ~county.sky.aloft;
        int steps = fewestSteps(cell, lying);
        return what == 0 ? steps : firstOnCircuit(cell, lying, steps);
    }

    /** Recursion ends as each step takes one of six KITES out of the set. */
    private int fewestSteps(int cell, int lying) {
        int fewest = NONE;
        for (int k = 0; k < county.kites; k++) {
            if (isIn(lying, k)) {
                int at = county.sky.at[k];
                int steps = far(cell, at) + fewestSteps(at, withBit(lying, k, 0));
                if (fewest == NONE || steps < fewest) {
                    fewest = steps;
                }
            }
        }
        return fewest == NONE ? 0 : fewest;
    }

    private int firstOnCircuit(int cell, int lying, int steps) {
        for (int k = 0; k < county.kites; k++) {
            if (isIn(lying, k)) {
                int at = county.sky.at[k];
                if (far(cell, at) + fewestSteps(at, withBit(lying, k, 0)) == steps) {
                    return k;
                }
            }
        }
        return NONE;
    }

    // ---- plans

    public int best(int n) {
        if (!isPlanLength(n)) {
            return BAD;
        }
        plans.search(n, 0);
        return plans.mostWorth;
    }

    public int ith(int n, int i) {
        if (!isPlanLength(n) || !within(i, 0, LONGEST_PLAN - 1)) {
            return BAD;
        }
        plans.search(n, 0);
        return i < plans.length ? plans.first[i] : NONE;
    }

    public int ways(int n) {
        if (!isPlanLength(n)) {
            return BAD;
        }
        plans.search(n, 0);
        return plans.ways;
    }

    public int writ(int n, int kites) {
        if (!isPlanLength(n) || !within(kites, 0, county.allKites())) {
            return BAD;
        }
        plans.search(n, kites);
        return plans.fewestTold;
    }

    public int bars(int n, int kites) {
        if (!isPlanLength(n) || !within(kites, 0, county.allKites())) {
            return BAD;
        }
        plans.search(n, 0);
        for (int k = 0; k < county.kites; k++) {
            if (isIn(kites, k) && !isIn(plans.servedBySome, k)) {
                return k;
            }
        }
        return NONE;
    }

    // ---- a game, strange kites, lots

    public int game(int n) {
        return within(n, 1, LONGEST_PLAN) ? plans.valueOfGame(n) : BAD;
    }

    public int play(int n) {
        if (!within(n, 1, LONGEST_PLAN)) {
            return BAD;
        }
        if (county.isOver(county.sky)) {
            return NONE;
        }
        plans.valueOfGame(n);
        return plans.firstPlay;
    }

    public int report(int k, int axis, int least, int most) {
        if (!within(k, 0, GUSTS - 1) || !within(axis, 0, 1)
                || !within(least, 0, LAST_PLACE) || !within(most, least, LAST_PLACE)) {
            return BAD;
        }
        return county.reports >= MOST_REPORTS ? FULL : county.addReport(k, axis, least, most);
    }

    public int forget() {
        int were = county.reports;
        county.reports = 0;
        return were;
    }

    public int span(int what) {
        if (!within(what, 0, 2)) {
            return BAD;
        }
        if (what == 0) {
            return county.countFitting();
        }
        int fitting = county.firstFitting(NONE);
        if (fitting == NONE) {
            return NONE;
        }
        return what == 1 ? fitting / (LAST_CELL + 1) : fitting % (LAST_CELL + 1);
    }

    public int liar() {
        if (county.firstFitting(NONE) != NONE) {
            return NONE;
        }
        for (int report = 0; report < county.reports; report++) {
            if (county.firstFitting(report) != NONE) {
                return report;
            }
        }
        return NONE;
    }

    public int seed(int v) {
        int was = county.z;
        county.z = v;
        return was;
    }

    public int lot() {
        if (county.isOver(county.sky)) {
            return STATE;
        }
        county.z = nextLot(county.z);
        return county.goByAct(county.sky, county.actOfLot(county.z));
    }

    private static int nextLot(int z) {
        return z * 1103515245 + 12345;
    }

    public int times(int n, int v) {
        if (!within(n, 1, 40) || !within(v, 0, 999)) {
            return BAD;
        }
        int z = county.z;
        int reached = 0;
        for (int i = 0; i < n; i++) {
            trial.copy(county.sky);
            int worth = 0;
            for (int g = 0; g < GUSTS && !county.isOver(trial); g++) {
                z = nextLot(z);
                worth += county.goByAct(trial, county.actOfLot(z));
            }
            if (worth >= v) {
                reached++;
            }
        }
        return reached;
    }

    // ---- rows

    public int prove(int n) {
        if (!isPlanLength(n)) {
            return BAD;
        }
        plans.search(n, 0);
        trial.copy(county.sky);
        for (int i = 0; i < plans.length; i++) {
            rows[i][0] = plans.first[i];
            rows[i][1] = county.goByAct(trial, plans.first[i]);
            rows[i][2] = trial.served;
        }
        rowCount = plans.length;
        return rowCount;
    }

    public int row(int k, int what) {
        return isInRows(k, what) ? rows[k][what] : NO_ROW;
    }

    public int alterRow(int k, int what, int v) {
        if (!isInRows(k, what)) {
            return NO_ROW;
        }
        int was = rows[k][what];
        rows[k][what] = v;
        return was;
    }

    private boolean isInRows(int k, int what) {
        return within(k, 0, rowCount - 1) && within(what, 0, ROW_WIDTH - 1);
    }

    public int judge() {
        trial.copy(county.sky);
        for (int i = 0; i < rowCount; i++) {
            if (!isRightOnTrial(rows[i])) {
                return i + 1;
            }
        }
        return 0;
    }

    private boolean isRightOnTrial(int[] row) {
        if (county.isOver(trial) || !within(row[0], 0, county.kites)) {
            return false;
        }
        int worth = county.goByAct(trial, row[0]);
        return row[1] == worth && row[2] == trial.served;
    }

    // ---- the host

    public int sheet(int sheet, int sort, int n) {
        if (!isSheet(sheet) || !within(sort, MISSING, LAST_SORT)) {
            return BAD;
        }
        if (sort != MISSING && n > MOST_ITEMS) {
            return BAD;
        }
        if (sort != MISSING && n < 0) {
            return BELOW_0;
        }
        sorts[sheet] = sort;
        sizes[sheet] = sort == MISSING ? 0 : n;
        Arrays.fill(items[sheet], 0);
        return 1;
    }

    public int write(int sheet, int i, int v) {
        if (!isSheet(sheet)) {
            return BAD;
        }
        if (sorts[sheet] == MISSING) {
            return NOTHING;
        }
        if (!within(i, 0, sizes[sheet] - 1)) {
            return OUTSIDE;
        }
        items[sheet][i] = narrowed(v, sorts[sheet]);
        return 1;
    }

    private static long narrowed(int v, int sort) {
        switch (sort) {
            case BYTES: return (byte) v;
            case SHORTS: return (short) v;
            case BOOLEANS: return v != 0 ? 1 : 0;
            default: return v;
        }
    }

    public int item(int sheet, int sort, int i) {
        if (!isSheet(sheet) || !within(sort, 0, LAST_SORT)) {
            return BAD;
        }
        int refusal = refusalAs(sheet, sort);
        if (refusal != 0) {
            return refusal;
        }
        return within(i, 0, sizes[sheet] - 1) ? (int) items[sheet][i] : OUTSIDE;
    }

    /** What the host answers if a SHEET is taken for a row of this sort; 0: it is one. */
    private int refusalAs(int sheet, int sort) {
        if (sorts[sheet] == MISSING) {
            return NOTHING;
        }
        return sorts[sheet] == sort ? 0 : OTHER_SORT;
    }

    public int goAll(int sheet, int i, int n) {
        if (!isSheet(sheet) || !within(n, 0, MOST_TAKEN)) {
            return BAD;
        }
        int refusal = refusalAs(sheet, BYTES);
        if (refusal != 0) {
            return refusal;
        }
        int worth = 0;
        for (int j = 0; j < n; j++) {
            // (i + j wraps only from an i that was refused at j = 0)
            if (!within(i + j, 0, sizes[sheet] - 1)) {
                return OUTSIDE;
            }
            int act = (int) items[sheet][i + j];
            if (within(act, 0, county.kites) && !county.isOver(county.sky)) {
                worth += county.goByAct(county.sky, act);
            }
        }
        return worth;
    }

    public int wouldBe(int sheet, int i, int n) {
        if (!isSheet(sheet) || !within(n, 0, MOST_TAKEN)) {
            return BAD;
        }
        int refusal = refusalAs(sheet, BYTES);
        if (refusal != 0) {
            return refusal;
        }
        trial.copy(county.sky);
        int worth = 0;
        for (int j = 0; j < n; j++) {
            if (!within(i + j, 0, sizes[sheet] - 1)) {
                return OUTSIDE;
            }
            int act = (int) items[sheet][i + j];
            if (!within(act, 0, county.kites) || county.isOver(trial)) {
                return STATE;
            }
            worth += county.goByAct(trial, act);
        }
        return worth;
    }

    public int shelf(int shelf, int what, int n) {
        if (!isShelf(shelf)) {
            return BAD;
        }
        switch (what) {
            case HOLDS_KITE: return isKite(n) ? putOn(shelf, HOLDS_KITE, n, 0) : BAD;
            case HOLDS_ROW: return isSheet(n) ? putRowOn(shelf, n) : BAD;
            case HOLDS_NOTHING: return putOn(shelf, HOLDS_NOTHING, 0, 0);
            default: return BAD;
        }
    }

    /** The SHELF holds the row that is there now: of a row sort and length never change. */
    private int putRowOn(int shelf, int sheet) {
        if (sorts[sheet] == MISSING) {
            return putOn(shelf, HOLDS_NOTHING, 0, 0);
        }
        return putOn(shelf, HOLDS_ROW, sorts[sheet], sizes[sheet]);
    }

    private int putOn(int shelf, int what, int thing, int size) {
        holds[shelf] = what;
        held[shelf] = thing;
        heldItems[shelf] = size;
        return 1;
    }

    public int taken(int shelf, int as) {
        boolean asRow = within(as, AS_ROW, AS_ROW + LAST_SORT);
        if (!isShelf(shelf) || !asRow && !within(as, KITE, OLD)) {
            return BAD;
        }
        if (holdsKite(shelf)) {
            int k = held[shelf];
            return !asRow && isOrUnder(county.kind[k], as) ? k : OTHER_SORT;
        }
        if (holds[shelf] == HOLDS_ROW) {
            return held[shelf] == as - AS_ROW ? heldItems[shelf] : OTHER_SORT;
        }
        return NOTHING;
    }

    /** A KITE may be gone since it was put there: again() may know fewer. */
    private boolean holdsKite(int shelf) {
        return holds[shelf] == HOLDS_KITE && isKite(held[shelf]);
    }

    public int act(int shelf, int act, int x) {
        traced = 0;
        if (!isShelf(shelf) || !within(act, 0, 3) || !holdsKite(shelf)) {
            return 0;
        }
        int k = held[shelf];
        Kite thing = kinds[county.kind[k]];
        thing.become(k, county.name[k]);
        int answer;
        switch (act) {
            case 0: answer = thing.flies(x); break;
            case 1: answer = thing.reads(x); break;
            case 2: answer = thing.parts(x); break;
            default: answer = thing.calls(x); break;
        }
        traced = thing.begun;
        return thing.isPartedBy0 ? PARTED_BY_0 : answer;
    }

    public int trace(int i) {
        return within(i, 0, traced - 1) ? bodies[i] : NONE;
    }

    public int many(int what) {
        switch (what) {
            case 0: return county.kites;
            case 1: return county.rules.count;
            case 2: return Integer.bitCount(county.sky.served);
            case 3: return county.reports;
            case 4: return rowCount;
            case 5: return reader.length;
            case 6: return traced;
            default: return BAD;
        }
    }

    // ---- kept

    public int keep() {
        kept.copy(county);
        isKept = true;
        return 1;
    }

    public int again() {
        if (!isKept) {
            return NONE;
        }
        county.copy(kept);
        return county.kites;
    }

    // ---- what is asked of numbers

    private boolean isKite(int k) {
        return within(k, 0, county.kites - 1);
    }

    private static boolean isPlanLength(int n) {
        return within(n, 0, LONGEST_PLAN);
    }

    private static boolean isSheet(int sheet) {
        return within(sheet, 0, SHEETS - 1);
    }

    private static boolean isShelf(int shelf) {
        return within(shelf, 0, SHELVES - 1);
    }

    private static boolean within(int v, int least, int most) {
        return v >= least && v <= most;
    }

    private static boolean isIn(int set, int k) {
        return (set >> k & 1) == 1;
    }

    private static int withBit(int set, int k, int v) {
        return v == 1 ? set | 1 << k : set & ~(1 << k);
    }

    private static boolean isOrUnder(int kind, int above) {
        return above == kind || above == KITE || kind == JUDGE && above == HEAVY || kind == OLD && above == BOX;
    }

    private static int far(int cell, int other) {
        return Math.abs((cell & 7) - (other & 7)) + Math.abs((cell >> 3) - (other >> 3));
    }

    /** How many CELLS there are from this one to the edge of THE MOOR, on a WAY. */
    private static int room(int cell, int way) {
        switch (way) {
            case 0: return LAST_PLACE - (cell & 7);
            case 1: return LAST_PLACE - (cell >> 3);
            case 2: return cell & 7;
            default: return cell >> 3;
        }
    }

    /** By how much the number of a CELL grows, one CELL on, on a WAY. */
    private static int step(int way) {
        switch (way) {
            case 0: return 1;
            case 1: return 8;
            case 2: return -1;
            default: return -8;
        }
    }

    /** KIND 0, and what the others have from it; one object is the thing of each KITE of its KIND, by turns. */
    private static class Kite {
        private final int[] bodies;
        int n = 0;
        int a = 0;
        int begun = 0;
        boolean isPartedBy0 = false;

        Kite(int[] bodies) {
            this.bodies = bodies;
        }

        int drifts(int force, int gust) {
            return force;
        }

        int fee(int number) {
            return 4;
        }

        final void become(int number, int name) {
            n = number;
            a = name;
            begun = 0;
            isPartedBy0 = false;
        }

        /** After a parting by 0 no body begins any more, so that none is told. */
        final void begin(int body) {
            if (!isPartedBy0 && begun < bodies.length) {
                bodies[begun] = body;
                begun++;
            }
        }

        int flies(int x) {
            begin(10);
            return x * 5 + n;
        }

        int reads(int x) {
            begin(11);
            return flies(x) ^ a;
        }

        int parts(int x) {
            begin(12);
            int by = n - a;
            if (by == 0) {
                isPartedBy0 = true;
                return 0;
            }
            return x % by;
        }

        int calls(int x) {
            begin(13);
            int read = reads(x);
            return read + parts(x) * 2;
        }
    }

    private static final class Red extends Kite {
        Red(int[] bodies) {
            super(bodies);
        }

        int drifts(int force, int gust) {
            return 2 * super.drifts(force, gust);
        }

        int fee(int number) {
            return super.fee(number) + 2;
        }

        int flies(int x) {
            begin(20);
            return super.flies(x) - 1;
        }
    }

    private static class Heavy extends Kite {
        Heavy(int[] bodies) {
            super(bodies);
        }

        int drifts(int force, int gust) {
            return Math.max(0, super.drifts(force, gust) - 1);
        }

        int fee(int number) {
            return super.fee(number) + number;
        }

        int reads(int x) {
            begin(30);
            return super.reads(x + n);
        }
    }

    private static final class Judge extends Heavy {
        Judge(int[] bodies) {
            super(bodies);
        }

        int drifts(int force, int gust) {
            return super.drifts(force, gust) + (gust % 2 == 0 ? 1 : 0);
        }

        int fee(int number) {
            return super.fee(number) * 2;
        }

        int flies(int x) {
            begin(50);
            return super.flies(x) ^ 6;
        }

        int calls(int x) {
            begin(51);
            int called = super.calls(x);
            return called - reads(n);
        }
    }

    private static class Box extends Kite {
        Box(int[] bodies) {
            super(bodies);
        }

        int drifts(int force, int gust) {
            return Math.min(1, super.drifts(force, gust));
        }

        int fee(int number) {
            return super.fee(number) - 1;
        }

        int parts(int x) {
            begin(40);
            return 0 - super.parts(x);
        }
    }

    private static final class Old extends Box {
        Old(int[] bodies) {
            super(bodies);
        }

        int drifts(int force, int gust) {
            return gust % 2 == 0 ? super.drifts(force, gust) : 0;
        }

        int fee(int number) {
            return super.fee(number) / 2;
        }

        int reads(int x) {
            begin(60);
            return super.reads(x) * a;
        }

        int parts(int x) {
            begin(61);
            int parted = super.parts(x);
            return parted + flies(n);
        }
    }

    /** What a GUST changes. */
    private static final class Sky {
        int gust = 0;
        int score = 0;
        int aloft = 0;
        int served = 0;
        final int[] at = new int[MOST_KITES];
        final int[] string = new int[MOST_KITES];

        void copy(Sky other) {
            gust = other.gust;
            score = other.score;
            aloft = other.aloft;
            served = other.served;
            System.arraycopy(other.at, 0, at, 0, MOST_KITES);
            System.arraycopy(other.string, 0, string, 0, MOST_KITES);
        }
    }

    /** All that keep() keeps, and how a GUST goes by in it. */
    private static final class County {
        private final Kite[] kinds;
        int kites = 0;
        int end = 12;
        int z = 1;
        int reports = 0;
        final int[] kind = new int[MOST_KITES];
        final int[] name = new int[MOST_KITES];
        final int[] wind = new int[GUSTS];
        final int[] farmAt = new int[FARMS];
        final int[] comes = new int[FARMS];
        private final int[] behind = new int[MOST_REPORTS];
        private final int[] axis = new int[MOST_REPORTS];
        private final int[] least = new int[MOST_REPORTS];
        private final int[] most = new int[MOST_REPORTS];
        final Rules rules = new Rules();
        final Sky sky = new Sky();

        County(Kite[] kinds) {
            this.kinds = kinds;
            Arrays.fill(wind, 4);
            Arrays.fill(comes, 3);
        }

        void copy(County other) {
            kites = other.kites;
            end = other.end;
            z = other.z;
            reports = other.reports;
            System.arraycopy(other.kind, 0, kind, 0, MOST_KITES);
            System.arraycopy(other.name, 0, name, 0, MOST_KITES);
            System.arraycopy(other.wind, 0, wind, 0, GUSTS);
            System.arraycopy(other.farmAt, 0, farmAt, 0, FARMS);
            System.arraycopy(other.comes, 0, comes, 0, FARMS);
            System.arraycopy(other.behind, 0, behind, 0, MOST_REPORTS);
            System.arraycopy(other.axis, 0, axis, 0, MOST_REPORTS);
            System.arraycopy(other.least, 0, least, 0, MOST_REPORTS);
            System.arraycopy(other.most, 0, most, 0, MOST_REPORTS);
            rules.copy(other.rules);
            sky.copy(other.sky);
        }

        int addKite(int itsKind, int at, int string, int itsName) {
            int k = kites;
            kites++;
            kind[k] = itsKind;
            name[k] = itsName;
            sky.at[k] = at;
            sky.string[k] = string;
            sky.aloft = withBit(sky.aloft, k, 1);
            sky.served = withBit(sky.served, k, 0);
            return k;
        }

        int addReport(int k, int itsAxis, int from, int to) {
            int report = reports;
            reports++;
            behind[report] = k;
            axis[report] = itsAxis;
            least[report] = from;
            most[report] = to;
            return report;
        }

        int allKites() {
            return (1 << kites) - 1;
        }

        boolean isOver(Sky now) {
            return now.gust >= end;
        }

        int windOf(int gust) {
            return within(gust, 0, GUSTS - 1) ? wind[gust] : 0;
        }

        int driftsNow(int k) {
            int gust = sky.gust;
            return gust < GUSTS ? kinds[kind[k]].drifts(windOf(gust) / 4, gust) : 0;
        }

        int feeOf(int k) {
            return kinds[kind[k]].fee(k);
        }

        int farFromFarm(Sky now, int k) {
            return far(now.at[k], farmAt[name[k]]);
        }

        int willOf(Sky now, int k) {
            layFacts(now, k, farFromFarm(now, k));
            return rules.doFor(kind[k]);
        }

        private void layFacts(Sky now, int k, int far) {
            int[] facts = rules.facts;
            facts[0] = now.gust;
            facts[1] = now.string[k];
            facts[2] = far;
            facts[3] = name[k];
            facts[4] = k;
        }

        int actOfLot(int drawn) {
            return (drawn >>> 16) % (kites + 1);
        }

        /** A GUST goes by behind this ACT: what it is WORTH. */
        int goByAct(Sky now, int act) {
            drift(now);
            return tell(now, act - 1);
        }

        /** A GUST of THE REST goes by: what it is WORTH. */
        int goByRest(Sky now) {
            drift(now);
            return tell(now, firstInReach(now));
        }

        private void drift(Sky now) {
            int force = windOf(now.gust) / 4;
            int way = windOf(now.gust) % 4;
            for (int k = 0; k < kites; k++) {
                if (isIn(now.aloft, k)) {
                    int drifts = kinds[kind[k]].drifts(force, now.gust);
                    int goes = Math.min(Math.min(drifts, now.string[k]), room(now.at[k], way));
                    now.at[k] += goes * step(way);
                    now.string[k] -= goes;
                }
            }
        }

        private int firstInReach(Sky now) {
            for (int k = 0; k < kites; k++) {
                if (isIn(now.aloft, k) && farFromFarm(now, k) <= comes[name[k]]) {
                    return k;
                }
            }
            return NOBODY;
        }

        /** Part (2) of a GUST, and its end. */
        private int tell(Sky now, int told) {
            int worth = 0;
            if (told != NOBODY && isIn(now.aloft, told)) {
                int far = farFromFarm(now, told);
                layFacts(now, told, far);
                int will = rules.doFor(kind[told]);
                if (will != HOLD) {
                    now.aloft = withBit(now.aloft, told, 0);
                }
                if (will == CUT) {
                    worth = 1;
                } else if (will == SERVE && far <= comes[name[told]]) {
                    now.served = withBit(now.served, told, 1);
                    worth = kinds[kind[told]].fee(told) + Math.max(0, 9 - far);
                }
            }
            now.score += worth;
            now.gust++;
            return worth;
        }

        boolean isSomeAloftAt(Sky now, int cell) {
            for (int k = 0; k < kites; k++) {
                if (isIn(now.aloft, k) && now.at[k] == cell) {
                    return true;
                }
            }
            return false;
        }

        int countCases() {
            int cases = 0;
            int seen = 0;
            for (int k = 0; k < kites; k++) {
                if (isIn(sky.aloft, k) && !isIn(seen, k)) {
                    cases++;
                    seen |= caseOf(k);
                }
            }
            return cases;
        }

        /** KITES that hang together with this one, as a set: none if it lies. */
        int caseOf(int k) {
            int found = sky.aloft & 1 << k;
            for (int round = 0; round < kites; round++) {
                for (int other = 0; other < kites; other++) {
                    if (isIn(sky.aloft, other) && isTangledWithSome(other, found)) {
                        found = withBit(found, other, 1);
                    }
                }
            }
            return found;
        }

        private boolean isTangledWithSome(int k, int set) {
            int at = sky.at[k];
            for (int other = 0; other < kites; other++) {
                int there = sky.at[other];
                if (isIn(set, other) && Math.abs((at & 7) - (there & 7)) <= 1
                        && Math.abs((at >> 3) - (there >> 3)) <= 1) {
                    return true;
                }
            }
            return false;
        }

        int countFitting() {
            int count = 0;
            for (int strange = RED; strange <= OLD; strange++) {
                for (int cell = 0; cell <= LAST_CELL; cell++) {
                    if (fits(strange, cell, NONE)) {
                        count++;
                    }
                }
            }
            return count;
        }

        /** The first STRANGE KITE that FITS but for one REPORT (or none is left out): 64 times its KIND, and its CELL. */
        int firstFitting(int leftOut) {
            for (int strange = RED; strange <= OLD; strange++) {
                for (int cell = 0; cell <= LAST_CELL; cell++) {
                    if (fits(strange, cell, leftOut)) {
                        return strange * (LAST_CELL + 1) + cell;
                    }
                }
            }
            return NONE;
        }

        private boolean fits(int strange, int cell, int leftOut) {
            int at = cell;
            int string = MOST_STRING;
            for (int gust = 0; gust < GUSTS; gust++) {
                if (!isAsReported(gust, at, leftOut)) {
                    return false;
                }
                int way = wind[gust] % 4;
                int drifts = kinds[strange].drifts(wind[gust] / 4, gust);
                int goes = Math.min(Math.min(drifts, string), room(at, way));
                at += goes * step(way);
                string -= goes;
            }
            return true;
        }

        private boolean isAsReported(int gustsBehind, int at, int leftOut) {
            for (int report = 0; report < reports; report++) {
                if (report != leftOut && behind[report] == gustsBehind) {
                    int place = axis[report] == 0 ? at & 7 : at >> 3;
                    if (!within(place, least[report], most[report])) {
                        return false;
                    }
                }
            }
            return true;
        }
    }

    /** THE RULES; each condition is a row of code that puts comparisons ahead of what joins them. */
    private static final class Rules {
        int count = 0;
        int codeLength = 0;
        private final int[] kind = new int[MOST_RULES];
        private final int[] doing = new int[MOST_RULES];
        private final int[] from = new int[MOST_RULES];
        private final int[] to = new int[MOST_RULES];
        private final int[] code = new int[MOST_BYTES];
        /** Of the KITE that is asked about: GUST, STRING, FAR, NAME, number. */
        final int[] facts = new int[FACTS];

        void clear() {
            count = 0;
            codeLength = 0;
        }

        void copy(Rules other) {
            count = other.count;
            codeLength = other.codeLength;
            System.arraycopy(other.kind, 0, kind, 0, MOST_RULES);
            System.arraycopy(other.doing, 0, doing, 0, MOST_RULES);
            System.arraycopy(other.from, 0, from, 0, MOST_RULES);
            System.arraycopy(other.to, 0, to, 0, MOST_RULES);
            System.arraycopy(other.code, 0, code, 0, MOST_BYTES);
        }

        /** A text of 200 bytes never needs more code than that: each int comes from a byte or more of its own. */
        void addCode(int one) {
            if (codeLength < code.length) {
                code[codeLength] = one;
                codeLength++;
            }
        }

        void addRule(int itsKind, int itsDoing, int codeFrom) {
            if (count < MOST_RULES) {
                kind[count] = itsKind;
                doing[count] = itsDoing;
                from[count] = codeFrom;
                to[count] = codeLength;
                count++;
            }
        }

        int doFor(int kiteKind) {
            for (int rule = 0; rule < count; rule++) {
                if (isOrUnder(kiteKind, kind[rule]) && isSo(rule)) {
                    return doing[rule];
                }
            }
            return SERVE;
        }

        /** What holds is stacked in bits, the latest lowest; nothing but the 1 at first: there is no condition. */
        private boolean isSo(int rule) {
            int stack = 1;
            for (int i = from[rule]; i < to[rule]; i++) {
                int one = code[i];
                if (one == NOT) {
                    stack ^= 1;
                } else if (one == AND) {
                    stack = (stack & 1) == 1 ? stack >>> 1 : stack >>> 1 & ~1;
                } else if (one == OR) {
                    stack = stack >>> 1 | stack & 1;
                } else if (i + 2 < to[rule]) {
                    stack = stack << 1 | (compares(one, code[i + 1], code[i + 2]) ? 1 : 0);
                    i += 2;
                }
            }
            return (stack & 1) == 1;
        }

        private boolean compares(int sign, int left, int right) {
            int l = left >= FACT && left < FACT + FACTS ? facts[left - FACT] : left;
            int r = right >= FACT && right < FACT + FACTS ? facts[right - FACT] : right;
            return sign == LESS ? l < r : sign == EQUAL ? l == r : l > r;
        }
    }

    /** THE TAPE, and how its TEXT is read: first into tokens, then rule by rule. */
    private static final class RuleReader {
        int length = 0;
        private final byte[] tape = new byte[MOST_BYTES];
        /** With the end of the text as the last one. */
        private final int[] tokens = new int[MOST_BYTES + 1];
        private final int[] starts = new int[MOST_BYTES + 1];
        private int last = 0;
        private int next = 0;
        private int fault = NO_FAULT;
        private final Rules draft = new Rules();

        int take(long eight, int n) {
            for (int i = 0; i < n && length < MOST_BYTES; i++) {
                tape[length] = (byte) (eight >>> 8 * i);
                length++;
            }
            return length;
        }

        int readInto(Rules rules) {
            readTokens();
            draft.clear();
            next = 0;
            fault = NO_FAULT;
            for (int i = 0; i <= MOST_RULES && isStill() && token() != END_OF_TEXT; i++) {
                readRule();
            }
            length = 0;
            if (fault != NO_FAULT) {
                return -100 - fault;
            }
            rules.copy(draft);
            return rules.count;
        }

        private void readTokens() {
            last = 0;
            for (int i = 0; i < length; i++) {
                if (tape[i] != ' ' && !(i > 0 && isOneRow(i - 1, i))) {
                    tokens[last] = tokenOf(i, endOfRow(i));
                    starts[last] = i;
                    last++;
                }
            }
            tokens[last] = END_OF_TEXT;
            starts[last] = length;
        }

        private boolean isOneRow(int i, int next) {
            return isLetter(i) && isLetter(next) || isDigit(i) && isDigit(next);
        }

        private int endOfRow(int start) {
            for (int i = start + 1; i < length; i++) {
                if (!isOneRow(i - 1, i)) {
                    return i;
                }
            }
            return length;
        }

        private boolean isLetter(int i) {
            return within(tape[i], 'a', 'z');
        }

        private boolean isDigit(int i) {
            return within(tape[i], '0', '9');
        }

        private int tokenOf(int start, int end) {
            if (isLetter(start)) {
                return wordOf(start, end);
            }
            if (isDigit(start)) {
                return numberOf(start, end);
            }
            switch (tape[start]) {
                case ';': return SEMICOLON;
                case '(': return OPEN;
                case ')': return CLOSE;
                case '<': return LESS;
                case '=': return EQUAL;
                case '>': return MORE;
                default: return STRAY;
            }
        }

        private int wordOf(int start, int end) {
            int word = 0;
            int i = start;
            boolean isSame = true;
            for (int w = 0; w < WORDS.length(); w++) {
                char c = WORDS.charAt(w);
                if (c != ' ') {
                    isSame = isSame && i < end && tape[i] == c;
                    i++;
                } else if (isSame && i == end) {
                    return word;
                } else {
                    word++;
                    i = start;
                    isSame = true;
                }
            }
            return STRAY;
        }

        private int numberOf(int start, int end) {
            if (end - start > MOST_DIGITS) {
                return STRAY;
            }
            int number = 0;
            for (int i = start; i < end; i++) {
                number = number * 10 + tape[i] - '0';
            }
            return NUMBER + number;
        }

        private boolean isStill() {
            return fault == NO_FAULT;
        }

        private int token() {
            return tokens[next];
        }

        /** Goes on behind a token that can stand here; of several FAULTS the first is kept. */
        private void pass(boolean canStand) {
            if (fault != NO_FAULT) {
                return;
            }
            if (!canStand) {
                fault = starts[next];
            } else if (next < last) {
                next++;
            }
        }

        private void readRule() {
            int kind = token();
            int codeFrom = draft.codeLength;
            pass(within(kind, KITE, OLD) && draft.count < MOST_RULES);
            if (isStill() && token() == IF) {
                pass(true);
                readAny(0);
            }
            int doing = token() - SERVE_WORD;
            pass(within(doing, SERVE, CUT));
            pass(token() == SEMICOLON);
            draft.addRule(kind, doing, codeFrom);
        }

        /** COND; open: how many "(" are open, and no more than three are, which bounds the recursion. */
        private void readAny(int open) {
            readAll(open);
            for (int i = 0; i < MOST_BYTES && isStill() && token() == OR; i++) {
                pass(true);
                readAll(open);
                draft.addCode(OR);
            }
        }

        private void readAll(int open) {
            readOne(open);
            for (int i = 0; i < MOST_BYTES && isStill() && token() == AND; i++) {
                pass(true);
                readOne(open);
                draft.addCode(AND);
            }
        }

        private void readOne(int open) {
            boolean isDenied = false;
            for (int i = 0; i < MOST_BYTES && isStill() && token() == NOT; i++) {
                pass(true);
                isDenied = !isDenied;
            }
            if (isStill() && token() == OPEN) {
                pass(open < MOST_OPEN);
                if (isStill()) {
                    readAny(open + 1);
                }
                pass(token() == CLOSE);
            } else {
                readComparison();
            }
            if (isDenied) {
                draft.addCode(NOT);
            }
        }

        private void readComparison() {
            int left = token();
            pass(isValue(left));
            int sign = token();
            pass(within(sign, LESS, MORE));
            int right = token();
            pass(isValue(right));
            draft.addCode(sign);
            draft.addCode(operandOf(left));
            draft.addCode(operandOf(right));
        }

        private static boolean isValue(int token) {
            return token >= NUMBER || token >= FIRST_FACT_WORD && token <= LAST_FACT_WORD;
        }

        private static int operandOf(int token) {
            return token >= NUMBER ? token - NUMBER : FACT + token - FIRST_FACT_WORD;
        }
    }

    /** All PLANS of a length are gone through, and GAMES played out, from how it is now. */
    private static final class Plans {
        private final County county;
        private final Sky[] skies = new Sky[LONGEST_PLAN + 1];
        private final int[] acts = new int[LONGEST_PLAN];
        /** The FIRST of the BEST PLANS. */
        final int[] first = new int[LONGEST_PLAN];
        int length = 0;
        int mostWorth = 0;
        int ways = 0;
        /** WRIT for the KITES that are wanted. */
        int fewestTold = NONE;
        private int wanted = 0;
        int servedBySome = 0;
        int firstPlay = 0;

        Plans(County county) {
            this.county = county;
            for (int i = 0; i < skies.length; i++) {
                skies[i] = new Sky();
            }
        }

        void search(int n, int kites) {
            wanted = kites;
            mostWorth = -1;
            fewestTold = NONE;
            servedBySome = 0;
            skies[0].copy(county.sky);
            extend(0, n, 0, 0);
        }

        /** Goes on behind so many ACTS: the depth, 4 at most. */
        private void extend(int depth, int n, int worth, int told) {
            Sky now = skies[depth];
            if (depth >= n || depth >= LONGEST_PLAN || county.isOver(now)) {
                weigh(depth, worth, told);
                return;
            }
            Sky then = skies[depth + 1];
            for (int act = 0; act <= county.kites; act++) {
                then.copy(now);
                acts[depth] = act;
                int more = county.goByAct(then, act);
                extend(depth + 1, n, worth + more, act == 0 ? told : told + 1);
            }
        }

        /** PLANS come with lesser ACTS first, so the FIRST is the one that is met first. */
        private void weigh(int depth, int worth, int told) {
            int served = skies[depth].served;
            servedBySome |= served;
            if ((served & wanted) == wanted && (fewestTold == NONE || told < fewestTold)) {
                fewestTold = told;
            }
            if (worth == mostWorth) {
                ways++;
            } else if (worth > mostWorth) {
                mostWorth = worth;
                ways = 1;
                length = depth;
                System.arraycopy(acts, 0, first, 0, LONGEST_PLAN);
            }
        }

        int valueOfGame(int n) {
            skies[0].copy(county.sky);
            return valueFrom(0, n);
        }

        /** The depth is 4 at most; ACTS at even depths are the first one's. */
        private int valueFrom(int depth, int n) {
            Sky now = skies[depth];
            if (depth >= n || depth >= LONGEST_PLAN || county.isOver(now)) {
                return 0;
            }
            boolean isFirstOnes = depth % 2 == 0;
            Sky then = skies[depth + 1];
            int value = 0;
            for (int act = 0; act <= county.kites; act++) {
                then.copy(now);
                int worth = county.goByAct(then, act);
                worth += valueFrom(depth + 1, n);
                if (act == 0 || (isFirstOnes ? worth > value : worth < value)) {
                    value = worth;
                    if (depth == 0) {
                        firstPlay = act;
                    }
                }
            }
            return value;
        }
    }
}
