import java.lang.reflect.Field;
import java.lang.reflect.Method;
import java.lang.reflect.Modifier;
import java.nio.file.Files;
import java.nio.file.Path;
import java.util.Arrays;
import java.util.List;
import java.util.Set;
import java.util.TreeSet;
import java.util.regex.Matcher;
import java.util.regex.Pattern;

/** What of ../shared/LANGUAGE.md, and of the document's face, can be seen from outside and in the text of the class. */
public final class LanguageTest {
    private static final Due due = new Due();
    private static final String FACE = "kite(4) kiteOf(2) change(3) remake(2) wind(2) farm(3) farmOf(2) ends(1) anew(0) "
        + "state(1) feed(2) rules(0) gust(0) on(1) when(1) stringFor(1) nameFor(1) over(1) cases(1) circuit(2) best(1) "
        + "ith(2) ways(1) writ(2) bars(2) game(1) play(1) report(4) forget(0) span(1) liar(0) seed(1) lot(0) times(2) "
        + "prove(1) row(2) alterRow(3) judge(0) sheet(3) write(3) item(3) goAll(3) wouldBe(3) shelf(3) taken(2) act(3) "
        + "trace(1) many(1) keep(0) again(0)";

    public static void main(String[] args) throws Exception {
        face();
        membersOfTheFace();
        classes();
        methods();
        fields();
        String code = code();
        words(code);
        imports(code);
        lengths(code);
        due.end("LanguageTest");
    }

    /** The class's own text, without comments and what stands in quotes. */
    private static String code() throws Exception {
        String text = Files.readString(Path.of("src/main/java/KiteSummons.java"));
        return text.replaceAll("(?s)/\\*.*?\\*/", "").replaceAll("//[^\n]*", "").replaceAll("\"[^\"]*\"", "\"\"");
    }

    private static List<Class<?>> all() {
        List<Class<?>> all = new java.util.ArrayList<>(Arrays.asList(KiteSummons.class.getDeclaredClasses()));
        all.add(KiteSummons.class);
        return all;
    }

    /** Rule 1: "the document's face": its calls, constants and constructor. */
    private static void face() throws Exception {
        Set<String> calls = new TreeSet<>();
        for (Method method : KiteSummons.class.getDeclaredMethods()) {
            if (Modifier.isPublic(method.getModifiers())) {
                calls.add(method.getName() + "(" + method.getParameterCount() + ")");
                due.is("face: " + method.getName() + " answers an int", method.getReturnType() == int.class ? 1 : 0, 1);
            }
        }
        due.is("face: " + calls, calls.equals(new TreeSet<>(Arrays.asList(FACE.split(" ")))) ? 1 : 0, 1);
        due.is("face: final", Modifier.isFinal(KiteSummons.class.getModifiers()) ? 1 : 0, 1);
        due.is("face: one constructor", KiteSummons.class.getConstructors().length, 1);
        due.is("face: feed takes a long", KiteSummons.class.getMethod("feed", long.class, int.class) == null ? 0 : 1, 1);
        due.is("BAD", KiteSummons.BAD, -1);
        due.is("FULL", KiteSummons.FULL, -2);
        due.is("NONE", KiteSummons.NONE, -3);
        due.is("STATE", KiteSummons.STATE, -4);
    }

    /** Rule 1: no other member but private ones; no private method bears the name of a public one. */
    private static void membersOfTheFace() {
        for (Field field : KiteSummons.class.getDeclaredFields()) {
            boolean isOfTheFace = List.of("BAD", "FULL", "NONE", "STATE").contains(field.getName());
            due.is("1: " + field, Modifier.isPrivate(field.getModifiers()) != isOfTheFace ? 1 : 0, 1);
        }
        for (Method method : KiteSummons.class.getDeclaredMethods()) {
            boolean isOfTheFace = FACE.matches("(.* )?" + method.getName() + "\\(.*");
            boolean isPublic = Modifier.isPublic(method.getModifiers());
            boolean isPrivate = Modifier.isPrivate(method.getModifiers());
            due.is("1: " + method, isOfTheFace ? isPublic ? 1 : 0 : isPrivate ? 1 : 0, 1);
        }
    }

    /** Rules 2 and 11: static classes inside, not public; some twelve in the file. */
    private static void classes() {
        due.is("11: some twelve classes", all().size() <= 12 ? 1 : 0, 1);
        for (Class<?> one : KiteSummons.class.getDeclaredClasses()) {
            due.is("2: static " + one, Modifier.isStatic(one.getModifiers()) ? 1 : 0, 1);
            due.is("1: not public " + one, one.getModifiers() & (Modifier.PUBLIC | Modifier.PROTECTED), 0);
            due.is("2: none inside " + one, one.getDeclaredClasses().length, 0);
        }
    }

    /** Rules 6 and 11: seven parameters at most; no equals, hashCode or toString. */
    private static void methods() {
        for (Class<?> one : all()) {
            for (Method method : one.getDeclaredMethods()) {
                due.is("11: " + method, method.getParameterCount() <= 7 ? 1 : 0, 1);
                due.is("6: " + method, List.of("equals", "hashCode", "toString").contains(method.getName()) ? 1 : 0, 0);
            }
        }
    }

    /** Rules 5 and 11: static fields are final; a class has some twenty others. */
    private static void fields() {
        for (Class<?> one : all()) {
            int own = 0;
            for (Field field : one.getDeclaredFields()) {
                if (Modifier.isStatic(field.getModifiers())) {
                    due.is("5: final " + field, Modifier.isFinal(field.getModifiers()) ? 1 : 0, 1);
                } else {
                    own++;
                }
            }
            due.is("11: some twenty fields " + one, own <= 20 ? 1 : 0, 1);
        }
    }

    /** Rules 2, 4, 6 and 13: what must not stand in the text. */
    private static void words(String code) {
        String[] words = {"throw", "throws", "try", "catch", "finally", "synchronized", "assert", "volatile", "transient",
            "native", "Object", "Integer\\.valueOf", "System\\.(?!arraycopy)\\w+", "Math\\.\\w*Exact", "Thread", "Random",
            "Class", "Exception", "Error", "NaN", "hashCode", "float", "double", "var", "yield"};
        for (String word : words) {
            due.is("6: " + word, Pattern.compile("\\b" + word + "\\b").matcher(code).find() ? 1 : 0, 0);
        }
        for (String sign : new String[] {"->", "::", "@", "..."}) {
            due.is("2: " + sign, code.contains(sign) ? 1 : 0, 0);
        }
        for (int i = 0; i < code.length(); i++) {
            if (code.charAt(i) > 126) {
                due.is("4: a sign of the text", code.charAt(i), 0);
            }
        }
    }

    /** Rule 4: the library, and no package. */
    private static void imports(String code) {
        Matcher matcher = Pattern.compile("(?m)^(import|package) .*$").matcher(code);
        while (matcher.find()) {
            due.is("4: " + matcher.group(),
                matcher.group().matches("import java\\.util\\.(Arrays|ArrayList|List|Iterator);") ? 1 : 0, 1);
        }
    }

    /** Rule 11: "Methods stay short (some sixty lines)". */
    private static void lengths(String code) {
        String[] lines = code.split("\n");
        int start = -1;
        String indent = "";
        for (int i = 0; i < lines.length; i++) {
            Matcher head = Pattern.compile("^( {4}| {8})\\S.*\\).* \\{$|^( {4}| {8})\\S.*\\) \\{$").matcher(lines[i]);
            if (start < 0 && head.find() && !lines[i].contains(" class ")) {
                start = i;
                indent = lines[i].substring(0, lines[i].length() - lines[i].stripLeading().length());
            } else if (start >= 0 && lines[i].equals(indent + "}")) {
                due.is("11: lines of " + lines[start].strip(), i - start <= 60 ? 1 : 0, 1);
                start = -1;
            }
        }
    }
}
