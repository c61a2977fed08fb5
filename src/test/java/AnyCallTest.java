import java.lang.reflect.InvocationTargetException;
import java.lang.reflect.Method;
import java.lang.reflect.Modifier;
import java.util.ArrayList;
import java.util.Arrays;
import java.util.Comparator;
import java.util.List;
import java.util.Random;

/** Any call in many states: none throws, what is refused changes nothing, and nor does what is only asked. */
public final class AnyCallTest {
    private static final int[] NUMBERS = {Integer.MIN_VALUE, -100, -16, -15, -3, -2, -1, 0, 1, 2, 3, 4, 5, 6, 7, 8, 9, 10,
        11, 12, 13, 14, 15, 16, 17, 20, 21, 31, 39, 40, 41, 62, 63, 64, 65, 199, 200, 999, 1000, Integer.MAX_VALUE - 1,
        Integer.MAX_VALUE};
    /** With those of look() an object has 512 at most. */
    private static final int MOST_CALLS = 260;
    private static final List<String> ONLY_ASK = List.of("kiteOf", "farmOf", "state", "on", "when", "stringFor", "nameFor",
        "over", "cases", "circuit", "best", "ith", "ways", "writ", "bars", "game", "play", "span", "liar", "times", "row",
        "judge", "item", "wouldBe", "taken", "trace", "many");
    /** What answers below 0 as it should, or changes something though it refuses, as the document says. */
    private static final List<String> NOT_REFUSED = List.of("rules", "goAll", "act", "seed", "alterRow");

    public static void main(String[] args) throws Exception {
        Method[] face = Arrays.stream(KiteSummons.class.getDeclaredMethods())
            .filter(m -> Modifier.isPublic(m.getModifiers()))
            .sorted(Comparator.comparing(Method::getName)).toArray(Method[]::new);
        Due due = new Due();
        due.is("calls of the face", face.length, 51 - 1);
        Random chance = new Random(7);
        for (int run = 0; run < 150; run++) {
            KiteSummons x = run % 3 == 0 ? new KiteSummons() : Due.county();
            KiteSummons twin = run % 3 == 0 ? new KiteSummons() : Due.county();
            for (int i = 0; i < MOST_CALLS; i++) {
                Method method = face[chance.nextInt(face.length)];
                Object[] arguments = anyArguments(method, chance);
                int answer = call(x, method, arguments);
                boolean isNothing = ONLY_ASK.contains(method.getName())
                    || answer < 0 && !NOT_REFUSED.contains(method.getName());
                if (!isNothing) {
                    // (so the twin knows only what may change something)
                    due.is(method.getName() + Arrays.toString(arguments), answer, call(twin, method, arguments));
                }
            }
            List<Integer> of = look(x);
            List<Integer> ofTwin = look(twin);
            for (int i = 0; i < of.size(); i++) {
                due.is("run " + run + ", look " + i, of.get(i), ofTwin.get(i));
            }
        }
        due.end("AnyCallTest");
    }

    private static Object[] anyArguments(Method method, Random chance) {
        Class<?>[] types = method.getParameterTypes();
        Object[] arguments = new Object[types.length];
        int most = 1 + chance.nextInt(12);
        for (int i = 0; i < types.length; i++) {
            int one = chance.nextInt(4) == 0 ? NUMBERS[chance.nextInt(NUMBERS.length)] : chance.nextInt(most);
            if (types[i] == long.class) {
                arguments[i] = chance.nextLong();
            } else {
                arguments[i] = one;
            }
        }
        return arguments;
    }

    private static int call(KiteSummons x, Method method, Object[] arguments) throws Exception {
        try {
            return (Integer) method.invoke(x, arguments);
        } catch (InvocationTargetException e) {
            throw new IllegalStateException(method.getName() + Arrays.toString(arguments) + " threw", e.getCause());
        }
    }

    private static List<Integer> look(KiteSummons x) {
        List<Integer> answers = new ArrayList<>();
        for (int what = 0; what < 7; what++) {
            answers.add(x.state(what));
            answers.add(x.many(what));
        }
        for (int k = 0; k < x.many(0); k++) {
            for (int what = 0; what < 10; what++) {
                answers.add(x.kiteOf(k, what));
            }
        }
        for (int i = 0; i < 4; i++) {
            for (int as = 0; as < 15; as++) {
                answers.add(x.taken(i, as));
                answers.add(x.item(i, as % 5, as / 5));
            }
            for (int what = 0; what < 3; what++) {
                answers.add(x.row(i, what));
            }
        }
        for (int i = 0; i < 6; i++) {
            answers.add(x.farmOf(i, 0));
            answers.add(x.farmOf(i, 1));
        }
        for (int i = 0; i < 16; i++) {
            answers.add(x.wind(i, 0));
        }
        answers.add(x.seed(0));
        answers.add(x.span(0));
        answers.add(x.again());
        answers.add(x.state(0));
        return answers;
    }
}
