import java.util.ArrayDeque;
import java.util.ArrayList;
import java.util.Deque;
import java.util.List;
import java.util.function.Predicate;
import java.util.regex.Matcher;
import java.util.regex.Pattern;

/**
 * The document said a second time and in another way, for ModelTest: each try is made on a copy of the whole
 * county, PLANS are counted through one by one, the text is read by states, and the host is Java's own.
 */
final class Model {
    private static final int BAD = -1, FULL = -2, NONE = -3, STATE = -4;
    private static final String[] KINDS = {"kite", "red", "heavy", "judge", "box", "old"};
    private static final int[] ABOVE = {-1, 0, 0, 2, 0, 4};

    private static final class K {
        int kind, at, string, name;
        boolean aloft = true, served;

        K copy() {
            K k = new K();
            k.kind = kind;
            k.at = at;
            k.string = string;
            k.name = name;
            k.aloft = aloft;
            k.served = served;
            return k;
        }
    }

    private static final class Rule {
        int kind, doing;
        Predicate<int[]> condition = facts -> true;
    }

    /** All that is kept. */
    private static final class World {
        List<K> kites = new ArrayList<>();
        List<Rule> rules = new ArrayList<>();
        List<int[]> reports = new ArrayList<>();
        int gust, end = 12, score, z = 1;
        int[] wind = {4, 4, 4, 4, 4, 4, 4, 4, 4, 4, 4, 4, 4, 4, 4, 4};
        int[] farmAt = new int[6], comes = {3, 3, 3, 3, 3, 3};

        World copy() {
            World w = new World();
            for (K k : kites) {
                w.kites.add(k.copy());
            }
            w.rules = new ArrayList<>(rules);
            w.reports = new ArrayList<>(reports);
            w.gust = gust;
            w.end = end;
            w.score = score;
            w.z = z;
            w.wind = wind.clone();
            w.farmAt = farmAt.clone();
            w.comes = comes.clone();
            return w;
        }

        boolean isOver() {
            return gust >= end;
        }

        int far(K k) {
            return distance(k.at, farmAt[k.name]);
        }

        boolean isInReach(K k) {
            return far(k) <= comes[k.name];
        }

        int fee(int number) {
            switch (KINDS[kites.get(number).kind]) {
                case "red": return 6;
                case "heavy": return 4 + number;
                case "judge": return 8 + 2 * number;
                case "box": return 3;
                case "old": return 1;
                default: throw new IllegalStateException();
            }
        }

        int will(int number) {
            K k = kites.get(number);
            int[] facts = {gust, k.string, far(k), k.name, number};
            for (Rule r : rules) {
                if (isUnder(k.kind, r.kind) && r.condition.test(facts)) {
                    return r.doing;
                }
            }
            return 0;
        }

        void drift() {
            for (K k : kites) {
                int toGo = drifts(k.kind, wind[gust] >> 2, gust);
                for (int i = 0; k.aloft && i < toGo && k.string > 0 && neighbour(k.at, wind[gust] & 3) >= 0; i++) {
                    k.at = neighbour(k.at, wind[gust] & 3);
                    k.string--;
                }
            }
        }

        int finish(int told) {
            int worth = 0;
            if (told >= 0 && kites.get(told).aloft) {
                K k = kites.get(told);
                int will = will(told);
                k.aloft = will == 1;
                if (will == 2) {
                    worth = 1;
                } else if (will == 0 && isInReach(k)) {
                    k.served = true;
                    worth = fee(told) + (far(k) < 9 ? 9 - far(k) : 0);
                }
            }
            gust++;
            score += worth;
            return worth;
        }

        int byAct(int act) {
            drift();
            return finish(act - 1);
        }

        int byRest() {
            drift();
            for (int i = 0; i < kites.size(); i++) {
                if (kites.get(i).aloft && isInReach(kites.get(i))) {
                    return finish(i);
                }
            }
            return finish(-1);
        }

        int byLot() {
            z = z * 1103515245 + 12345;
            return byAct((int) ((z & 0xFFFFFFFFL) >> 16) % (kites.size() + 1));
        }

        int rest() {
            World w = copy();
            int worth = 0;
            while (!w.isOver()) {
                worth += w.byRest();
            }
            return worth;
        }

        int served() {
            int set = 0;
            for (int i = 0; i < kites.size(); i++) {
                set += kites.get(i).served ? 1 << i : 0;
            }
            return set;
        }

        int aloft() {
            int set = 0;
            for (int i = 0; i < kites.size(); i++) {
                set += kites.get(i).aloft ? 1 << i : 0;
            }
            return set;
        }
    }

    private static int distance(int a, int b) {
        return Math.abs(a % 8 - b % 8) + Math.abs(a / 8 - b / 8);
    }

    private static boolean isUnder(int kind, int above) {
        for (int k = kind; k >= 0; k = ABOVE[k]) {
            if (k == above) {
                return true;
            }
        }
        return false;
    }

    private static int neighbour(int cell, int way) {
        int x = cell % 8 + (way == 0 ? 1 : way == 2 ? -1 : 0);
        int y = cell / 8 + (way == 1 ? 1 : way == 3 ? -1 : 0);
        return x < 0 || x > 7 || y < 0 || y > 7 ? -1 : x + 8 * y;
    }

    private static int drifts(int kind, int force, int gust) {
        switch (KINDS[kind]) {
            case "red": return force + force;
            case "heavy": return force == 0 ? 0 : force - 1;
            case "judge": return (force == 0 ? 0 : force - 1) + (gust % 2 == 0 ? 1 : 0);
            case "box": return force > 0 ? 1 : 0;
            case "old": return force > 0 && gust % 2 == 0 ? 1 : 0;
            default: throw new IllegalStateException();
        }
    }

    private World w = new World();
    private World kept = null;
    private StringBuilder tape = new StringBuilder();
    private List<int[]> rows = new ArrayList<>();
    private final Object[] sheets = new Object[4];
    private final Object[] shelves = new Object[4];
    private List<Integer> trace = new ArrayList<>();

    private boolean isKite(int k) {
        return k >= 0 && k < w.kites.size();
    }

    private static boolean in(int v, int least, int most) {
        return least <= v && v <= most;
    }

    int kite(int kind, int at, int string, int name) {
        if (!(in(kind, 1, 5) && in(at, 0, 63) && in(string, 0, 9) && in(name, 0, 5))) {
            return BAD;
        }
        if (w.kites.size() == 6) {
            return FULL;
        }
        K k = new K();
        k.kind = kind;
        k.at = at;
        k.string = string;
        k.name = name;
        w.kites.add(k);
        return w.kites.size() - 1;
    }

    int kiteOf(int k, int what) {
        if (!isKite(k)) {
            return BAD;
        }
        K it = w.kites.get(k);
        switch (what) {
            case 0: return it.kind;
            case 1: return it.at;
            case 2: return it.string;
            case 3: return it.name;
            case 4: return it.aloft ? 1 : 0;
            case 5: return it.served ? 1 : 0;
            case 6: return w.gust == 16 ? 0 : drifts(it.kind, w.wind[w.gust] >> 2, w.gust);
            case 7: return w.fee(k);
            case 8: return w.will(k);
            case 9: return w.far(it);
            default: return BAD;
        }
    }

    int change(int k, int what, int v) {
        int was = kiteOf(k, what);
        if (!isKite(k) || !in(what, 1, 5) || !in(v, 0, new int[] {0, 63, 9, 5, 1, 1}[what])) {
            return BAD;
        }
        K it = w.kites.get(k);
        switch (what) {
            case 1: it.at = v; break;
            case 2: it.string = v; break;
            case 3: it.name = v; break;
            case 4: it.aloft = v == 1; break;
            default: it.served = v == 1;
        }
        return was;
    }

    int remake(int k, int kind) {
        if (!isKite(k) || !in(kind, 1, 5)) {
            return BAD;
        }
        int was = w.kites.get(k).kind;
        w.kites.get(k).kind = kind;
        return was;
    }

    int wind(int gust, int v) {
        if (!in(gust, 0, 15) || !in(v, 0, 15)) {
            return BAD;
        }
        int was = w.wind[gust];
        w.wind[gust] = v;
        return was;
    }

    int farm(int f, int what, int v) {
        if (!in(f, 0, 5) || !in(what, 0, 1) || !in(v, 0, what == 0 ? 63 : 14)) {
            return BAD;
        }
        int[] of = what == 0 ? w.farmAt : w.comes;
        int was = of[f];
        of[f] = v;
        return was;
    }

    int farmOf(int f, int what) {
        return !in(f, 0, 5) || !in(what, 0, 1) ? BAD : what == 0 ? w.farmAt[f] : w.comes[f];
    }

    int ends(int v) {
        if (!in(v, 1, 16)) {
            return BAD;
        }
        if (v < w.gust) {
            return STATE;
        }
        int was = w.end;
        w.end = v;
        return was;
    }

    int anew() {
        int was = w.gust;
        w.gust = 0;
        w.score = 0;
        for (K k : w.kites) {
            k.aloft = true;
            k.served = false;
        }
        return was;
    }

    int state(int what) {
        switch (what) {
            case 0: return w.gust;
            case 1: return w.end;
            case 2: return w.score;
            case 3: return w.isOver() ? 1 : 0;
            case 4: return w.aloft();
            case 5: return w.served();
            case 6: return w.gust == 16 ? 0 : w.wind[w.gust];
            default: return BAD;
        }
    }

    int feed(long eight, int n) {
        if (!in(n, 1, 8)) {
            return BAD;
        }
        if (tape.length() + n > 200) {
            return FULL;
        }
        for (int i = 0; i < n; i++) {
            tape.append((char) (eight & 255));
            eight >>= 8;
        }
        return tape.length();
    }

    int rules() {
        Text text = new Text(tape.toString());
        tape = new StringBuilder();
        int fault = text.read();
        if (fault >= 0) {
            return -100 - fault;
        }
        w.rules = text.rules;
        return w.rules.size();
    }

    /** Reads a text by states; conditions are built with two stacks. */
    private static final class Text {
        private static final Pattern TOKEN = Pattern.compile("[a-z]+|[0-9]+|[^ ]", Pattern.DOTALL);
        private final String text;
        private final List<Rule> rules = new ArrayList<>();
        private final Deque<Predicate<int[]>> values = new ArrayDeque<>();
        private final Deque<String> joints = new ArrayDeque<>();
        private String state = "kind";
        private String left, sign;
        private Rule rule;

        Text(String text) {
            this.text = text;
        }

        int read() {
            Matcher m = TOKEN.matcher(text);
            while (m.find()) {
                String next = step(m.group());
                if (next == null) {
                    return m.start();
                }
                state = next;
            }
            return state.equals("kind") ? -1 : text.length();
        }

        private String step(String t) {
            switch (state) {
                case "kind":
                    int kind = List.of(KINDS).indexOf(t);
                    if (kind < 0 || rules.size() == 8) {
                        return null;
                    }
                    rule = new Rule();
                    rule.kind = kind;
                    return "do or if";
                case "do or if":
                    return t.equals("if") ? "one" : doing(t);
                case "one":
                    if (t.equals("not") || t.equals("(") && joints.stream().filter("("::equals).count() < 3) {
                        joints.push(t);
                        return "one";
                    }
                    left = t;
                    return isValue(t) ? "sign" : null;
                case "sign":
                    sign = t;
                    return t.equals("<") || t.equals("=") || t.equals(">") ? "right" : null;
                case "right":
                    if (!isValue(t)) {
                        return null;
                    }
                    values.push(comparison(left, sign, t));
                    settle("not");
                    return "behind";
                case "behind":
                    return behind(t);
                default:
                    if (!t.equals(";")) {
                        return null;
                    }
                    rules.add(rule);
                    return "kind";
            }
        }

        private String behind(String t) {
            boolean isOpen = joints.contains("(");
            if (t.equals("and") || t.equals("or")) {
                settle("and");
                if (t.equals("or")) {
                    settle("or");
                }
                joints.push(t);
                return "one";
            }
            if (isOpen && t.equals(")")) {
                settle("and");
                settle("or");
                joints.pop();
                settle("not");
                return "behind";
            }
            if (isOpen || doing(t) == null) {
                return null;
            }
            settle("and");
            settle("or");
            rule.condition = values.pop();
            return "end";
        }

        private String doing(String t) {
            int doing = List.of("serve", "hold", "cut").indexOf(t);
            rule.doing = doing;
            return doing < 0 ? null : "end";
        }

        private void settle(String joint) {
            while (!joints.isEmpty() && joints.peek().equals(joint)) {
                joints.pop();
                Predicate<int[]> right = values.pop();
                values.push(joint.equals("not") ? right.negate()
                    : joint.equals("and") ? values.pop().and(right) : values.pop().or(right));
            }
        }

        private static boolean isValue(String t) {
            return t.matches("[0-9]{1,4}") || factOf(t) >= 0;
        }

        private static int factOf(String t) {
            return List.of("gust", "string", "far", "name", "number").indexOf(t);
        }

        private static int valueOf(String t, int[] facts) {
            return factOf(t) >= 0 ? facts[factOf(t)] : Integer.parseInt(t);
        }

        private static Predicate<int[]> comparison(String left, String sign, String right) {
            int due = sign.equals("<") ? -1 : sign.equals("=") ? 0 : 1;
            return facts -> Integer.compare(valueOf(left, facts), valueOf(right, facts)) == due;
        }
    }

    int gust() {
        return w.isOver() ? STATE : w.byRest();
    }

    int on(int n) {
        if (!in(n, 0, 16)) {
            return BAD;
        }
        World then = w.copy();
        int before = then.score;
        for (int i = 0; i < n && !then.isOver(); i++) {
            then.byRest();
        }
        return then.score - before;
    }

    int when(int k) {
        if (!isKite(k)) {
            return BAD;
        }
        World then = w.copy();
        if (!then.kites.get(k).aloft) {
            return NONE;
        }
        while (!then.isOver()) {
            int gust = then.gust;
            then.byRest();
            if (!then.kites.get(k).aloft) {
                return gust;
            }
        }
        return NONE;
    }

    int stringFor(int k) {
        if (!isKite(k)) {
            return BAD;
        }
        int found = 9;
        int most = -1;
        for (int s = 9; s >= 0; s--) {
            World then = w.copy();
            then.kites.get(k).string = s;
            if (then.rest() >= most) {
                most = then.rest();
                found = s;
            }
        }
        return found;
    }

    int nameFor(int k) {
        if (!isKite(k)) {
            return BAD;
        }
        int found = 5;
        int most = -1;
        for (int s = 5; s >= 0; s--) {
            World then = w.copy();
            then.kites.get(k).name = s;
            if (then.rest() >= most) {
                most = then.rest();
                found = s;
            }
        }
        return found;
    }

    int over(int cell) {
        if (!in(cell, 0, 63)) {
            return BAD;
        }
        World then = w.copy();
        while (!then.isOver()) {
            int gust = then.gust;
            then.byAct(0);
            if (then.kites.stream().anyMatch(k -> k.aloft && k.at == cell)) {
                return gust;
            }
        }
        return NONE;
    }

    /** Each KITE ALOFT bears the least number that it hangs together with. */
    int cases(int what) {
        if (what != -1 && !isKite(what)) {
            return BAD;
        }
        int n = w.kites.size();
        int[] mark = new int[n];
        for (int i = 0; i < n; i++) {
            mark[i] = w.kites.get(i).aloft ? i : -1;
        }
        for (int round = 0; round < n * n; round++) {
            for (int i = 0; i < n; i++) {
                for (int j = 0; j < n; j++) {
                    int a = w.kites.get(i).at;
                    int b = w.kites.get(j).at;
                    if (mark[i] >= 0 && mark[j] >= 0 && in(a % 8 - b % 8, -1, 1) && in(a / 8 - b / 8, -1, 1)) {
                        mark[i] = Math.min(mark[i], mark[j]);
                    }
                }
            }
        }
        int answer = 0;
        for (int i = 0; i < n; i++) {
            if (what == -1) {
                answer += mark[i] == i ? 1 : 0;
            } else if (mark[i] >= 0 && mark[i] == mark[what]) {
                answer |= 1 << i;
            }
        }
        return answer;
    }

    int circuit(int cell, int what) {
        if (!in(cell, 0, 63) || !in(what, 0, 1)) {
            return BAD;
        }
        List<Integer> lying = new ArrayList<>();
        for (int i = 0; i < w.kites.size(); i++) {
            if (!w.kites.get(i).aloft) {
                lying.add(i);
            }
        }
        int[] found = {Integer.MAX_VALUE, NONE};
        walk(cell, 0, -1, lying, found);
        return found[what];
    }

    /** Goes every row of KITES to its end, least ones first. */
    private void walk(int cell, int steps, int firstOne, List<Integer> left, int[] found) {
        if (left.isEmpty() && steps < found[0]) {
            found[0] = steps;
            found[1] = firstOne < 0 ? NONE : firstOne;
        }
        for (Integer k : left) {
            List<Integer> others = new ArrayList<>(left);
            others.remove(k);
            int at = w.kites.get(k).at;
            walk(at, steps + distance(cell, at), firstOne < 0 ? k : firstOne, others, found);
        }
    }

    private static final class Plan {
        int[] acts;
        int worth, served;
    }

    /** All PLANS of n, those with lesser ACTS first. */
    private List<Plan> plans(int n) {
        List<Plan> plans = new ArrayList<>();
        int length = Math.min(n, w.end - w.gust);
        int base = w.kites.size() + 1;
        int count = 1;
        for (int i = 0; i < length; i++) {
            count *= base;
        }
        for (int number = 0; number < count; number++) {
            Plan plan = new Plan();
            plan.acts = new int[length];
            int left = number;
            for (int i = length - 1; i >= 0; i--) {
                plan.acts[i] = left % base;
                left /= base;
            }
            World then = w.copy();
            for (int act : plan.acts) {
                plan.worth += then.byAct(act);
            }
            plan.served = then.served();
            plans.add(plan);
        }
        return plans;
    }

    private static List<Plan> bestOf(List<Plan> plans) {
        int most = plans.stream().mapToInt(p -> p.worth).max().getAsInt();
        List<Plan> bests = new ArrayList<>(plans);
        bests.removeIf(p -> p.worth < most);
        return bests;
    }

    int best(int n) {
        return in(n, 0, 4) ? bestOf(plans(n)).get(0).worth : BAD;
    }

    int ith(int n, int i) {
        if (!in(n, 0, 4) || !in(i, 0, 3)) {
            return BAD;
        }
        int[] acts = bestOf(plans(n)).get(0).acts;
        return i < acts.length ? acts[i] : NONE;
    }

    int ways(int n) {
        return in(n, 0, 4) ? bestOf(plans(n)).size() : BAD;
    }

    private boolean isSet(int kites) {
        return kites >= 0 && kites >> w.kites.size() == 0;
    }

    int writ(int n, int kites) {
        if (!in(n, 0, 4) || !isSet(kites)) {
            return BAD;
        }
        int fewest = NONE;
        for (Plan p : plans(n)) {
            int told = 0;
            for (int act : p.acts) {
                told += act != 0 ? 1 : 0;
            }
            if ((p.served | kites) == p.served && (fewest == NONE || told < fewest)) {
                fewest = told;
            }
        }
        return fewest;
    }

    int bars(int n, int kites) {
        if (!in(n, 0, 4) || !isSet(kites)) {
            return BAD;
        }
        List<Plan> plans = plans(n);
        for (int k = 0; k < w.kites.size(); k++) {
            int it = 1 << k;
            if ((kites & it) != 0 && plans.stream().noneMatch(p -> (p.served & it) != 0)) {
                return k;
            }
        }
        return NONE;
    }

    private static int value(World world, int turns, int sign) {
        if (turns == 0 || world.isOver()) {
            return 0;
        }
        int value = Integer.MIN_VALUE;
        for (int act = 0; act <= world.kites.size(); act++) {
            World then = world.copy();
            int worth = then.byAct(act) + value(then, turns - 1, -sign);
            value = Math.max(value, sign * worth);
        }
        return sign * value;
    }

    int game(int n) {
        return in(n, 1, 4) ? value(w, n, 1) : BAD;
    }

    int play(int n) {
        if (!in(n, 1, 4)) {
            return BAD;
        }
        if (w.isOver()) {
            return NONE;
        }
        int value = game(n);
        for (int act = 0;; act++) {
            World then = w.copy();
            if (then.byAct(act) + value(then, n - 1, -1) == value) {
                return act;
            }
        }
    }

    int report(int k, int axis, int least, int most) {
        if (!in(k, 0, 15) || !in(axis, 0, 1) || !in(least, 0, 7) || !in(most, 0, 7) || most < least) {
            return BAD;
        }
        if (w.reports.size() == 6) {
            return FULL;
        }
        w.reports.add(new int[] {k, axis, least, most});
        return w.reports.size() - 1;
    }

    int forget() {
        int were = w.reports.size();
        w.reports = new ArrayList<>();
        return were;
    }

    /** STRANGE KITES that FIT these, as KIND and CELL. */
    private List<int[]> fitting(List<int[]> reports) {
        List<int[]> found = new ArrayList<>();
        for (int kind = 1; kind <= 5; kind++) {
            for (int cell = 0; cell < 64; cell++) {
                World alone = w.copy();
                alone.kites.clear();
                alone.gust = 0;
                alone.end = 16;
                K strange = new K();
                strange.kind = kind;
                strange.at = cell;
                strange.string = 9;
                alone.kites.add(strange);
                int[] path = new int[16];
                for (int g = 0; g < 16; g++) {
                    path[g] = strange.at;
                    alone.byAct(0);
                }
                if (reports.stream().allMatch(r -> in(r[1] == 0 ? path[r[0]] % 8 : path[r[0]] / 8, r[2], r[3]))) {
                    found.add(new int[] {kind, cell});
                }
            }
        }
        return found;
    }

    int span(int what) {
        if (!in(what, 0, 2)) {
            return BAD;
        }
        List<int[]> found = fitting(w.reports);
        return what == 0 ? found.size() : found.isEmpty() ? NONE : found.get(0)[what - 1];
    }

    int liar() {
        if (!fitting(w.reports).isEmpty()) {
            return NONE;
        }
        for (int i = 0; i < w.reports.size(); i++) {
            List<int[]> others = new ArrayList<>(w.reports);
            others.remove(i);
            if (!fitting(others).isEmpty()) {
                return i;
            }
        }
        return NONE;
    }

    int seed(int v) {
        int was = w.z;
        w.z = v;
        return was;
    }

    int lot() {
        return w.isOver() ? STATE : w.byLot();
    }

    int times(int n, int v) {
        if (!in(n, 1, 40) || !in(v, 0, 999)) {
            return BAD;
        }
        int z = w.z;
        int count = 0;
        for (int i = 0; i < n; i++) {
            World then = w.copy();
            then.z = z;
            int worth = 0;
            while (!then.isOver()) {
                worth += then.byLot();
            }
            z = then.z;
            count += worth >= v ? 1 : 0;
        }
        return count;
    }

    int prove(int n) {
        if (!in(n, 0, 4)) {
            return BAD;
        }
        rows = new ArrayList<>();
        World then = w.copy();
        for (int act : bestOf(plans(n)).get(0).acts) {
            int worth = then.byAct(act);
            rows.add(new int[] {act, worth, then.served()});
        }
        return rows.size();
    }

    int row(int k, int what) {
        return in(k, 0, rows.size() - 1) && in(what, 0, 2) ? rows.get(k)[what] : -9;
    }

    int alterRow(int k, int what, int v) {
        int was = row(k, what);
        if (in(k, 0, rows.size() - 1) && in(what, 0, 2)) {
            rows.get(k)[what] = v;
        }
        return was;
    }

    int judge() {
        World then = w.copy();
        for (int i = 0; i < rows.size(); i++) {
            int[] row = rows.get(i);
            if (then.isOver() || !in(row[0], 0, then.kites.size())) {
                return i + 1;
            }
            if (then.byAct(row[0]) != row[1] || then.served() != row[2]) {
                return i + 1;
            }
        }
        return 0;
    }

    int sheet(int sheet, int sort, int n) {
        if (!in(sheet, 0, 3) || !in(sort, -1, 4) || sort >= 0 && n > 40) {
            return BAD;
        }
        try {
            switch (sort) {
                case 0: sheets[sheet] = new byte[n]; break;
                case 1: sheets[sheet] = new short[n]; break;
                case 2: sheets[sheet] = new int[n]; break;
                case 3: sheets[sheet] = new long[n]; break;
                case 4: sheets[sheet] = new boolean[n]; break;
                default: sheets[sheet] = null;
            }
        } catch (NegativeArraySizeException e) {
            return -14;
        }
        return 1;
    }

    int write(int sheet, int i, int v) {
        if (!in(sheet, 0, 3)) {
            return BAD;
        }
        Object row = sheets[sheet];
        try {
            if (row instanceof byte[]) {
                ((byte[]) row)[i] = (byte) v;
            } else if (row instanceof short[]) {
                ((short[]) row)[i] = (short) v;
            } else if (row instanceof int[]) {
                ((int[]) row)[i] = v;
            } else if (row instanceof long[]) {
                ((long[]) row)[i] = v;
            } else {
                ((boolean[]) row)[i] = v != 0;
            }
        } catch (NullPointerException e) {
            return -11;
        } catch (ArrayIndexOutOfBoundsException e) {
            return -12;
        }
        return 1;
    }

    int item(int sheet, int sort, int i) {
        if (!in(sheet, 0, 3) || !in(sort, 0, 4)) {
            return BAD;
        }
        Object row = sheets[sheet];
        try {
            switch (sort) {
                case 0: return ((byte[]) row)[i];
                case 1: return ((short[]) row)[i];
                case 2: return ((int[]) row)[i];
                case 3: return (int) ((long[]) row)[i];
                default: return ((boolean[]) row)[i] ? 1 : 0;
            }
        } catch (ClassCastException e) {
            return -13;
        } catch (NullPointerException e) {
            return -11;
        } catch (ArrayIndexOutOfBoundsException e) {
            return -12;
        }
    }

    int goAll(int sheet, int i, int n) {
        if (!in(sheet, 0, 3) || !in(n, 0, 20)) {
            return BAD;
        }
        int worth = 0;
        try {
            byte[] row = (byte[]) sheets[sheet];
            int length = row.length;
            for (int j = 0; j < n; j++) {
                int act = row[Math.addExact(i, j)];
                if (in(act, 0, w.kites.size()) && !w.isOver()) {
                    worth += w.byAct(act);
                }
            }
        } catch (ClassCastException e) {
            return -13;
        } catch (NullPointerException e) {
            return -11;
        } catch (ArrayIndexOutOfBoundsException e) {
            return -12;
        }
        return worth;
    }

    int wouldBe(int sheet, int i, int n) {
        if (!in(sheet, 0, 3) || !in(n, 0, 20)) {
            return BAD;
        }
        if (sheets[sheet] == null) {
            return -11;
        }
        if (!(sheets[sheet] instanceof byte[])) {
            return -13;
        }
        byte[] row = (byte[]) sheets[sheet];
        World then = w.copy();
        for (int j = 0; j < n; j++) {
            if (i < 0 || i >= row.length - j) {
                return -12;
            }
            if (row[i + j] < 0 || row[i + j] > w.kites.size() || then.isOver()) {
                return STATE;
            }
            then.byAct(row[i + j]);
        }
        return then.score - w.score;
    }

    int shelf(int shelf, int what, int n) {
        if (!in(shelf, 0, 3) || !in(what, 0, 2) || what == 0 && !isKite(n) || what == 1 && !in(n, 0, 3)) {
            return BAD;
        }
        shelves[shelf] = what == 0 ? (Object) n : what == 1 ? sheets[n] : null;
        return 1;
    }

    /** What a SHELF holds now: a Thing, a row or null. */
    private Object heldNow(Object held) {
        if (!(held instanceof Integer)) {
            return held;
        }
        int k = (Integer) held;
        if (!isKite(k)) {
            return null;
        }
        int name = w.kites.get(k).name;
        switch (w.kites.get(k).kind) {
            case 1: return new RedThing(k, name);
            case 2: return new HeavyThing(k, name);
            case 3: return new JudgeThing(k, name);
            case 4: return new BoxThing(k, name);
            default: return new OldThing(k, name);
        }
    }

    int taken(int shelf, int as) {
        if (!in(shelf, 0, 3) || !in(as, 0, 5) && !in(as, 10, 14)) {
            return BAD;
        }
        Object held = heldNow(shelves[shelf]);
        try {
            switch (as) {
                case 0: return ((Thing) held).n;
                case 1: return ((RedThing) held).n;
                case 2: return ((HeavyThing) held).n;
                case 3: return ((JudgeThing) held).n;
                case 4: return ((BoxThing) held).n;
                case 5: return ((OldThing) held).n;
                case 10: return ((byte[]) held).length;
                case 11: return ((short[]) held).length;
                case 12: return ((int[]) held).length;
                case 13: return ((long[]) held).length;
                default: return ((boolean[]) held).length;
            }
        } catch (ClassCastException e) {
            return -13;
        } catch (NullPointerException e) {
            return -11;
        }
    }

    private class Thing {
        final int n, a;

        Thing(int n, int a) {
            this.n = n;
            this.a = a;
        }

        int flies(int x) {
            trace.add(10);
            return x * 5 + n;
        }

        int reads(int x) {
            trace.add(11);
            return flies(x) ^ a;
        }

        int parts(int x) {
            trace.add(12);
            return x % (n - a);
        }

        int calls(int x) {
            trace.add(13);
            return reads(x) + parts(x) * 2;
        }
    }

    private final class RedThing extends Thing {
        RedThing(int n, int a) {
            super(n, a);
        }

        @Override
        int flies(int x) {
            trace.add(20);
            return super.flies(x) - 1;
        }
    }

    private class HeavyThing extends Thing {
        HeavyThing(int n, int a) {
            super(n, a);
        }

        @Override
        int reads(int x) {
            trace.add(30);
            return super.reads(x + n);
        }
    }

    private class BoxThing extends Thing {
        BoxThing(int n, int a) {
            super(n, a);
        }

        @Override
        int parts(int x) {
            trace.add(40);
            return 0 - super.parts(x);
        }
    }

    private final class JudgeThing extends HeavyThing {
        JudgeThing(int n, int a) {
            super(n, a);
        }

        @Override
        int flies(int x) {
            trace.add(50);
            return super.flies(x) ^ 6;
        }

        @Override
        int calls(int x) {
            trace.add(51);
            return super.calls(x) - reads(n);
        }
    }

    private final class OldThing extends BoxThing {
        OldThing(int n, int a) {
            super(n, a);
        }

        @Override
        int reads(int x) {
            trace.add(60);
            return super.reads(x) * a;
        }

        @Override
        int parts(int x) {
            trace.add(61);
            return super.parts(x) + flies(n);
        }
    }

    int act(int shelf, int act, int x) {
        trace.clear();
        if (!in(shelf, 0, 3) || !in(act, 0, 3) || !(heldNow(shelves[shelf]) instanceof Thing)) {
            return 0;
        }
        Thing thing = (Thing) heldNow(shelves[shelf]);
        try {
            switch (act) {
                case 0: return thing.flies(x);
                case 1: return thing.reads(x);
                case 2: return thing.parts(x);
                default: return thing.calls(x);
            }
        } catch (ArithmeticException e) {
            return -15;
        }
    }

    int trace(int i) {
        return in(i, 0, Math.min(30, trace.size()) - 1) ? trace.get(i) : NONE;
    }

    int many(int what) {
        switch (what) {
            case 0: return w.kites.size();
            case 1: return w.rules.size();
            case 2: return (int) w.kites.stream().filter(k -> k.served).count();
            case 3: return w.reports.size();
            case 4: return rows.size();
            case 5: return tape.length();
            case 6: return Math.min(30, trace.size());
            default: return BAD;
        }
    }

    int keep() {
        kept = w.copy();
        return 1;
    }

    int again() {
        if (kept == null) {
            return NONE;
        }
        w = kept.copy();
        return w.kites.size();
    }
}
