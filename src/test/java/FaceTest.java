import java.lang.reflect.Constructor;
import java.lang.reflect.Field;
import java.lang.reflect.Method;
import java.lang.reflect.Modifier;
import java.nio.charset.StandardCharsets;
import java.nio.file.Files;
import java.nio.file.Path;
import java.util.ArrayList;
import java.util.HashSet;
import java.util.List;
import java.util.Map;
import java.util.Set;
import java.util.TreeMap;
import java.util.TreeSet;
import java.util.regex.Matcher;
import java.util.regex.Pattern;

/** The public face as the document tells it, and those rules of LANGUAGE.md that a text search can see. */
public final class FaceTest {
    private static final String[] FACE = {
        "int child(int,int,int,int)", "int type(long,int)", "int clear()", "int name(int)", "int party(int,int,int)",
        "int train(int,int,int)", "int wayOf(int)", "int boarded(int,int)", "int mixed(int)", "int load(int,int)",
        "int house(int,int,int,int,int)", "int pay(int,int,int)", "int hall(int,int)", "int chosen(int)", "int best(int,int)",
        "int orders()", "int delay(int,int,int)", "int ruling(int,int,int,int)", "int why(int,int,int,int)",
        "int lodge(int,int,int)", "int fetch(int,int)", "int where(int,int)", "int paid(int,int)", "int free(int,int)",
        "int trouble(int)", "int restless()", "int city(int)", "int torn(long,int,int)", "int paths(int)",
        "int lessons(int,int,int,int,int,int)", "int count(int)", "long trace()"};
    private static final String[] RULED_OUT = {"throw", "try", "catch", "synchronized", "assert", "->", "::", "System.out",
        "System.nano", "System.current", "Random", "Thread", "volatile", "transient", "protected", "package"};
    private static final Set<String> LIBRARY = Set.of("Arrays.fill", "Arrays.copyOf", "Arrays.copyOfRange", "System.arraycopy",
        "Math.max", "Math.min", "Math.abs", "Integer.bitCount", "Integer.numberOfTrailingZeros");
    private static int wrong = 0;

    private static void check(boolean right, String what) {
        if (!right) {
            wrong++;
            System.out.println(what);
        }
    }

    private static String told(Method m) {
        StringBuilder t = new StringBuilder(m.getReturnType().getName()).append(' ').append(m.getName()).append('(');
        for (Class<?> p : m.getParameterTypes()) {
            t.append(t.charAt(t.length() - 1) == '(' ? "" : ",").append(p.getName());
        }
        return t.append(')').toString();
    }

    private static void face() throws ReflectiveOperationException {
        Set<String> due = new TreeSet<>(Set.of(FACE));
        Set<String> got = new TreeSet<>();
        Set<String> names = new HashSet<>();
        for (Method m : ChildTrains.class.getDeclaredMethods()) {
            if (Modifier.isPublic(m.getModifiers())) {
                got.add(told(m));
                names.add(m.getName());
                check(!Modifier.isStatic(m.getModifiers()), m + " is static");
            } else {
                check(Modifier.isPrivate(m.getModifiers()), m + " is neither public nor private");
            }
        }
        check(due.equals(got), "the face is " + got);
        for (Method m : ChildTrains.class.getDeclaredMethods()) {
            check(Modifier.isPublic(m.getModifiers()) || !names.contains(m.getName()), m + " bears a public name");
        }
        Object[][] constants = {{"BAD", -1}, {"STATE", -2}, {"FULL", -3}, {"NONE", -9}};
        int shown = 0;
        for (Field f : ChildTrains.class.getDeclaredFields()) {
            shown += Modifier.isPublic(f.getModifiers()) ? 1 : 0;
            check(Modifier.isPublic(f.getModifiers()) || Modifier.isPrivate(f.getModifiers()), f + " is open");
            check(!Modifier.isStatic(f.getModifiers()) || Modifier.isFinal(f.getModifiers()), f + " is static, not final");
        }
        check(shown == constants.length, shown + " public fields");
        for (Object[] c : constants) {
            Field f = ChildTrains.class.getField((String) c[0]);
            check(f.getInt(null) == (Integer) c[1] && Modifier.isFinal(f.getModifiers()), c[0] + " is " + f.getInt(null));
        }
        Constructor<?>[] makers = ChildTrains.class.getDeclaredConstructors();
        check(makers.length == 1 && Modifier.isPublic(makers[0].getModifiers())
            && makers[0].getParameterCount() == 0, "the constructor");
        int kind = ChildTrains.class.getModifiers();
        check(Modifier.isPublic(kind) && Modifier.isFinal(kind), "the class is not public and final");
        for (Class<?> c : ChildTrains.class.getDeclaredClasses()) {
            check(Modifier.isStatic(c.getModifiers()) && Modifier.isPrivate(c.getModifiers()), c + " is not static and private");
            check(c.getDeclaredFields().length <= 30, c + " has many fields");
            for (Method m : c.getDeclaredMethods()) {
                check(!names.contains(m.getName()), m + " bears a public name");
                check(m.getParameterCount() <= 7, m + " has many parameters");
            }
        }
        check(ChildTrains.class.getDeclaredClasses().length < 12, "many classes");
    }

    /** The class as it is written, without comments and without what stands in texts. */
    private static String code() throws java.io.IOException {
        String source = Files.readString(Path.of("src/main/java/ChildTrains.java"), StandardCharsets.US_ASCII);
        return source.replaceAll("(?s)/\\*.*?\\*/", "").replaceAll("//[^\n]*", "").replaceAll("\"[^\"]*\"", "\"\"");
    }

    private static void text(String code) {
        for (String word : RULED_OUT) {
            String edge = Character.isLetter(word.charAt(0)) ? "\\b" : "";
            check(!Pattern.compile(edge + Pattern.quote(word)).matcher(code).find(), "the text has " + word);
        }
        Matcher use = Pattern.compile("import ([^;]*);").matcher(code);
        while (use.find()) {
            check(use.group(1).matches("java\\.util\\.(Arrays|ArrayList|List|Iterator)"), "the text has " + use.group());
        }
        Matcher asked = Pattern.compile("\\b(?:Arrays|System|Math|Integer|Long|String|List)\\.\\w+").matcher(code);
        while (asked.find()) {
            check(LIBRARY.contains(asked.group()), "the text has " + asked.group());
        }
    }

    /** What each method calls, by names; methods of one name in several classes are taken as one. */
    private static Map<String, Set<String>> calls(String code) {
        Map<String, Set<String>> calls = new TreeMap<>();
        Matcher method = Pattern.compile("(?ms)^( {4}| {8})(?! )[\\w\\[\\] ]*?(\\w+)\\([^(){};]*\\) \\{$(.*?)^\\1\\}$").matcher(code);
        while (method.find()) {
            check(method.group(3).lines().count() <= 60, method.group(2) + " is long");
            Set<String> called = calls.computeIfAbsent(method.group(2), n -> new TreeSet<>());
            Matcher call = Pattern.compile("\\b(?!(?:if|for|while|switch|return)\\b)(\\w+)\\(").matcher(method.group(3));
            while (call.find()) {
                called.add(call.group(1));
            }
        }
        return calls;
    }

    /** The longest row of calls from a method on, itself among them; a recursion's level is counted once. */
    private static List<String> deepest(Map<String, Set<String>> calls, List<String> open) {
        List<String> most = open;
        for (String next : calls.getOrDefault(open.get(open.size() - 1), Set.of())) {
            if (!open.contains(next)) {
                List<String> more = new ArrayList<>(open);
                more.add(next);
                more = deepest(calls, more);
                most = more.size() > most.size() ? more : most;
            }
        }
        return most;
    }

    private static void depth(String code) {
        Map<String, Set<String>> calls = calls(code);
        for (String told : FACE) {
            String name = told.substring(told.indexOf(' ') + 1, told.indexOf('('));
            check(calls.containsKey(name), name + " is not found in the text");
            List<String> row = deepest(calls, List.of(name));
            check(row.size() <= 8, "calls go deeper than eight: " + row);
        }
    }

    public static void main(String[] args) throws Exception {
        face();
        text(code());
        depth(code());
        System.out.println(wrong + " faults of the face or the text");
        if (wrong != 0) {
            System.exit(1);
        }
    }
}
