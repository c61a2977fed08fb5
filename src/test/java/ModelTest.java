import java.lang.reflect.Method;
import java.util.ArrayList;
import java.util.Arrays;
import java.util.Comparator;
import java.util.List;
import java.util.Random;

/** Runs of calls by chance (always the same ones), each answer held against the Model's: promises 1 to 51. */
public final class ModelTest {
    private static final int RUNS = 400;
    private static final int CALLS = 330;
    /** Behind these an object's answers are free. */
    private static final int MOST_CALLS = 512;
    private static final String[] KINDS = {"kite", "red", "heavy", "judge", "box", "old"};
    private static final String[] DOINGS = {"serve", "hold", "cut"};
    private static final String[] FACTS = {"gust", "string", "far", "name", "number"};
    private static final String[] STRAYS = {"(", ")", ";", "not ", "and", "if", "12345", "00001", "x", "=",
        "\u00e9", "\t", "A"};

    private final Random chance;
    private final KiteSummons x = new KiteSummons();
    private final Model model = new Model();
    private final List<String> log = new ArrayList<>();
    private int calls = 0;
    private boolean isWrong = false;

    private ModelTest(int run) {
        chance = new Random(run);
    }

    public static void main(String[] args) throws Exception {
        int wrong = 0;
        long answers = 0;
        for (int run = 0; run < RUNS && wrong < 5; run++) {
            ModelTest test = new ModelTest(run);
            test.run();
            answers += test.calls;
            if (test.isWrong) {
                wrong++;
                System.out.println("run " + run + ": " + String.join("; ", test.log));
            }
        }
        System.out.println("ModelTest: " + answers + " answers, " + wrong + " runs wrong");
        if (wrong != 0) {
            System.exit(1);
        }
    }

    private void run() throws Exception {
        Method[] face = Arrays.stream(KiteSummons.class.getDeclaredMethods())
            .filter(m -> java.lang.reflect.Modifier.isPublic(m.getModifiers()))
            .sorted(Comparator.comparing(Method::getName)).toArray(Method[]::new);
        settle();
        for (int i = 0; i < CALLS && !isWrong; i++) {
            Method method = face[chance.nextInt(face.length)];
            String name = method.getName();
            if (name.equals("rules") || name.equals("feed") && chance.nextInt(3) == 0) {
                tellRules();
            } else if ((name.equals("ends") || name.equals("again") || name.equals("forget")) && chance.nextInt(3) != 0) {
                call("gust");
            } else {
                call(name, argumentsOf(name));
            }
        }
        look();
    }

    /** A county with something in it. */
    private void settle() throws Exception {
        int kites = chance.nextInt(8);
        for (int i = 0; i < 6; i++) {
            call("farm", i, 0, chance.nextInt(64));
            call("farm", i, 1, chance.nextInt(3) == 0 ? chance.nextInt(15) : 3 + chance.nextInt(4));
        }
        for (int i = 0; i < kites; i++) {
            call("kite", 1 + chance.nextInt(5), chance.nextInt(64), chance.nextInt(10), chance.nextInt(6));
        }
        for (int i = 0; i < 16; i++) {
            call("wind", i, chance.nextInt(16));
        }
        if (chance.nextBoolean()) {
            tellRules();
        }
    }

    /** Whatever of the state can be asked. */
    private void look() throws Exception {
        for (int what = -1; what <= 7; what++) {
            call("state", what);
            call("many", what);
        }
        for (int k = 0; k < 6; k++) {
            for (int what = 0; what < 10; what++) {
                call("kiteOf", k, what);
            }
        }
        call("seed", 1);
        call("span", 0);
    }

    private void call(String name, Object... arguments) throws Exception {
        if (isWrong || calls == MOST_CALLS) {
            return;
        }
        calls++;
        Class<?>[] types = new Class<?>[arguments.length];
        for (int i = 0; i < types.length; i++) {
            types[i] = arguments[i] instanceof Long ? long.class : int.class;
        }
        int got = (Integer) KiteSummons.class.getDeclaredMethod(name, types).invoke(x, arguments);
        Method due = Model.class.getDeclaredMethod(name, types);
        due.setAccessible(true);
        int want = (Integer) due.invoke(model, arguments);
        String text = Arrays.toString(arguments);
        log.add(name + "(" + text.substring(1, text.length() - 1) + ") " + got + (got == want ? "" : ", due is " + want));
        isWrong = got != want;
    }

    /** A number from least to most, at times one beside them, or any. */
    private int about(int least, int most) {
        int one = chance.nextInt(40);
        return one == 0 ? least - 1 : one == 1 ? most + 1 : one == 2 ? chance.nextInt()
            : least + chance.nextInt(most - least + 1);
    }

    private int aKite() {
        return about(0, chance.nextInt(8) == 0 ? 5 : Math.max(0, model.many(0) - 1));
    }

    private int aSet() {
        return about(0, Math.max(0, (1 << model.many(0)) - 1));
    }

    private int length() {
        int one = chance.nextInt(20);
        return one == 0 ? 4 : one == 1 ? about(0, 4) : chance.nextInt(4);
    }

    private Object[] argumentsOf(String name) {
        switch (name) {
            case "kite": return all(about(1, 5), about(0, 63), about(0, 9), about(0, 5));
            case "kiteOf": return all(aKite(), about(0, 9));
            case "change": return change();
            case "remake": return remake();
            case "wind": return all(about(0, 15), about(0, 15));
            case "farm": return farm();
            case "farmOf": return all(about(0, 5), about(0, 1));
            case "ends": return all(about(Math.max(1, model.state(0)), 16));
            case "state": return all(about(0, 6));
            case "feed": return all(chance.nextLong(), about(1, 8));
            case "on": return all(about(0, 16));
            case "when":
            case "stringFor":
            case "nameFor": return all(aKite());
            case "over": return all(about(0, 63));
            case "cases": return all(chance.nextInt(3) == 0 ? -1 : aKite());
            case "circuit": return all(about(0, 63), about(0, 1));
            case "ith": return all(length(), about(0, 3));
            case "best":
            case "ways":
            case "game":
            case "play":
            case "prove": return all(length());
            case "writ":
            case "bars": return all(length(), aSet());
            case "report": return report();
            case "span": return all(about(0, 2));
            case "seed": return all(chance.nextInt());
            case "times": return all(about(1, 40), chance.nextInt(3) == 0 ? about(0, 999) : chance.nextInt(60));
            case "row": return all(about(0, 3), about(0, 2));
            case "alterRow": return all(about(0, 3), about(0, 2), chance.nextInt(6));
            default: return hostArgumentsOf(name);
        }
    }

    private Object[] hostArgumentsOf(String name) {
        int sheet = chance.nextInt(30) == 0 ? about(0, 3) : chance.nextInt(4);
        switch (name) {
            case "sheet": return all(sheet, chance.nextInt(3) == 0 ? 0 : about(-1, 4),
                chance.nextInt(4) == 0 ? about(0, 40) : 5);
            case "write": return all(sheet, about(0, 5), chance.nextInt(3) == 0 ? chance.nextInt() : chance.nextInt(8));
            case "item": return all(sheet, about(0, 4), about(0, 5));
            case "goAll": return all(sheet, about(0, 5), items());
            case "wouldBe": return all(sheet, about(0, 5), items());
            case "shelf":
                int what = about(0, 2);
                return all(sheet, what, what == 0 ? aKite() : about(0, 3));
            case "taken": return all(sheet, chance.nextInt(3) == 0 ? about(10, 14) : about(0, 5));
            case "act": return all(sheet, about(0, 3), chance.nextBoolean() ? chance.nextInt() : chance.nextInt(40) - 20);
            case "trace": return all(about(0, 11));
            case "many": return all(about(0, 6));
            default: return all();
        }
    }

    private int items() {
        int n = chance.nextInt(9) == 0 ? about(1, 20) : 1 + chance.nextInt(4);
        return n == 0 ? 1 : n;
    }

    private Object[] remake() {
        int k = aKite();
        int kind = about(1, 5);
        return all(k, kind == model.kiteOf(k, 0) ? kind % 5 + 1 : kind);
    }

    private Object[] change() {
        int what = about(1, 5);
        return all(aKite(), what, about(0, what == 1 ? 63 : what == 2 ? 9 : what == 3 ? 5 : 1));
    }

    private Object[] farm() {
        int what = about(0, 1);
        return all(about(0, 5), what, about(0, what == 0 ? 63 : 14));
    }

    private Object[] report() {
        int least = chance.nextInt(8);
        return all(about(0, 15), about(0, 1), about(least, least), about(Math.min(7, least + 1), 7));
    }

    private static Object[] all(Object... arguments) {
        return arguments;
    }

    private void tellRules() throws Exception {
        String text = chance.nextInt(12) == 0 ? manyRules() : rulesByChance();
        if (chance.nextInt(3) == 0 && text.length() > 0) {
            int at = chance.nextInt(text.length());
            String stray = STRAYS[chance.nextInt(STRAYS.length)];
            text = text.substring(0, at) + (chance.nextBoolean() ? stray : "")
                + text.substring(Math.min(text.length(), at + chance.nextInt(3)));
        }
        byte[] bytes = text.getBytes(java.nio.charset.StandardCharsets.ISO_8859_1);
        for (int i = 0; i < bytes.length; i += 8) {
            long eight = chance.nextLong();
            int n = Math.min(8, bytes.length - i);
            for (int j = 0; j < n; j++) {
                eight = eight & ~(255L << 8 * j) | (bytes[i + j] & 255L) << 8 * j;
            }
            call("feed", eight, n);
        }
        log.add("[" + text + "]");
        call("rules");
    }

    private String manyRules() {
        StringBuilder text = new StringBuilder();
        int rules = 7 + chance.nextInt(3);
        for (int i = 0; i < rules; i++) {
            text.append(one(KINDS)).append(' ').append(one(DOINGS)).append(';');
        }
        return text.toString();
    }

    private String rulesByChance() {
        StringBuilder text = new StringBuilder();
        int rules = chance.nextInt(5);
        for (int i = 0; i < rules; i++) {
            String when = chance.nextInt(4) == 0 ? "" : "if " + condition(0) + " ";
            String rule = one(KINDS) + " " + when + one(DOINGS) + blank() + ";" + blank();
            if (text.length() + rule.length() < 205) {
                text.append(rule);
            }
        }
        return text.toString();
    }

    private String condition(int open) {
        StringBuilder text = new StringBuilder(part(open));
        for (int i = chance.nextInt(5); i > 2; i--) {
            text.append(chance.nextBoolean() ? " and " : " or ").append(part(open));
        }
        return text.toString();
    }

    private String part(int open) {
        String not = chance.nextInt(4) == 0 ? chance.nextInt(3) == 0 ? "not not " : "not " : "";
        if (chance.nextInt(4) == 0 && (open < 3 || chance.nextInt(4) == 0)) {
            return not + "(" + condition(open + 1) + blank() + ")";
        }
        return not + value() + blank() + "<=>".charAt(chance.nextInt(3)) + blank() + value();
    }

    private String value() {
        int one = chance.nextInt(10);
        return one < 6 ? one(FACTS) : one == 6 ? "" + chance.nextInt(12000) : "" + chance.nextInt(10);
    }

    private String one(String[] texts) {
        return texts[chance.nextInt(texts.length)];
    }

    private String blank() {
        return chance.nextInt(3) == 0 ? " " : "";
    }
}
