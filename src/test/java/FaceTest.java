import java.io.IOException;
import java.lang.reflect.Array;
import java.lang.reflect.Constructor;
import java.lang.reflect.Field;
import java.lang.reflect.Method;
import java.lang.reflect.Modifier;
import java.nio.charset.StandardCharsets;
import java.nio.file.Files;
import java.nio.file.Path;
import java.util.ArrayList;
import java.util.HashMap;
import java.util.IdentityHashMap;
import java.util.List;
import java.util.Map;
import java.util.Set;
import java.util.TreeSet;
import java.util.regex.Matcher;
import java.util.regex.Pattern;

/** The class's face, as the document tells it, and the rules of LANGUAGE.md that can be read off. */
public final class FaceTest {
    private static final String[] FACE = {
        "feed(int,long)", "trunk()", "policy()", "breach()", "change(int,int)", "sets(int,int)", "ahead(int,int)",
        "fault(int,int)", "count(int)", "cut(int)", "line(int,int)", "value(int,int)", "clash(int,int)",
        "pick(int,int)", "undo(int,int)", "needs(int,int)", "carry(int,int)", "apart(int,int,int)", "cost(int,int)",
        "best(int,int,int,int)", "later(int,int)", "release(int,int)", "released(int,int)", "notes(int,int,int)",
        "differs(int,int)", "freed(int,int)", "danger(int,int,int)", "every(int,int)", "soonest(int,int)",
        "ready(int,boolean)", "orders(int,int)", "order(int,int,int,int)", "whence(int,int)", "strayed(int)",
        "bestCut(int,int,int)", "up(int,int,int)", "spans(int,int,int,int)", "lets(int,int,int)", "keep(int)",
        "goBack(int)"};

    private FaceTest() {
    }

    public static void main(String[] args) throws IOException {
        constants();
        methods();
        fields();
        classesInside();
        source(Path.of("src/main/java/CarriedBack.java"));
        Runs.close();
    }

    private static void holds(String what, boolean is) {
        Runs.due(what, is ? 1 : 0, 1);
    }

    private static void constants() {
        Runs.about("constants");
        Runs.due("NONE", CarriedBack.NONE, -1);
        Runs.due("NOBODY", CarriedBack.NOBODY, -2);
        Runs.due("UNKNOWN", CarriedBack.UNKNOWN, -1001);
        Runs.due("OUTSIDE", CarriedBack.OUTSIDE, -1002);
        Runs.due("NOT", CarriedBack.NOT, -1003);
        Runs.due("FULL", CarriedBack.FULL, -1004);
    }

    private static String signature(Method m) {
        StringBuilder b = new StringBuilder(m.getName()).append('(');
        for (Class<?> type : m.getParameterTypes()) {
            b.append(b.charAt(b.length() - 1) == '(' ? "" : ",").append(type.getName());
        }
        return b.append(')').toString();
    }

    private static void methods() {
        Runs.about("the face");
        int modifiers = CarriedBack.class.getModifiers();
        holds("public and final", Modifier.isPublic(modifiers) && Modifier.isFinal(modifiers));
        Constructor<?>[] made = CarriedBack.class.getDeclaredConstructors();
        holds("one public constructor", made.length == 1 && Modifier.isPublic(made[0].getModifiers())
            && made[0].getParameterCount() == 0);
        TreeSet<String> due = new TreeSet<>(List.of(FACE));
        TreeSet<String> names = new TreeSet<>();
        TreeSet<String> found = new TreeSet<>();
        for (String one : FACE) {
            names.add(one.substring(0, one.indexOf('(')));
        }
        for (Method m : CarriedBack.class.getDeclaredMethods()) {
            if (Modifier.isPublic(m.getModifiers())) {
                found.add(signature(m));
                holds(m.getName() + " answers an int, of an object",
                    m.getReturnType() == int.class && !Modifier.isStatic(m.getModifiers()));
            } else {
                holds(m.getName() + " is private", Modifier.isPrivate(m.getModifiers()));
                holds(m.getName() + " has a name of its own", !names.contains(m.getName()));
            }
            holds(m.getName() + " takes seven or fewer", m.getParameterCount() <= 7);
        }
        holds("the methods of the document, and no others: " + found, found.equals(due));
    }

    private static void fields() {
        Runs.about("fields");
        int visible = 0;
        int own = 0;
        for (Field f : CarriedBack.class.getDeclaredFields()) {
            int m = f.getModifiers();
            if (Modifier.isPublic(m)) {
                visible++;
                holds(f.getName() + " is a constant", Modifier.isStatic(m) && Modifier.isFinal(m));
            } else {
                holds(f.getName() + " is private", Modifier.isPrivate(m));
            }
            if (Modifier.isStatic(m)) {
                holds(f.getName() + " is final", Modifier.isFinal(m));
                holds(f.getName() + " is a constant of int", f.getType() == int.class);
            } else {
                holds(f.getName() + " is of a type that is allowed", allowed(f.getType()));
                own++;
            }
        }
        Runs.due("public fields", visible, 6);
        holds("some twenty fields: " + own, own <= 20);
    }

    private static void classesInside() {
        Runs.about("classes inside");
        Class<?>[] inside = CarriedBack.class.getDeclaredClasses();
        holds("some twelve classes", inside.length <= 12);
        for (Class<?> one : inside) {
            int m = one.getModifiers();
            holds(one.getName() + " is static and not public", Modifier.isStatic(m) && !Modifier.isPublic(m)
                && !Modifier.isProtected(m));
            int own = 0;
            for (Field f : one.getDeclaredFields()) {
                own += Modifier.isStatic(f.getModifiers()) ? 0 : 1;
                holds(one.getName() + "." + f.getName() + ": no static state", !Modifier.isStatic(f.getModifiers())
                    || Modifier.isFinal(f.getModifiers()) && f.getType() == int.class);
                holds(one.getName() + "." + f.getName() + " is of a type that is allowed", allowed(f.getType()));
            }
            holds(one.getName() + ": some twenty fields", own <= 20);
            for (Method method : one.getDeclaredMethods()) {
                holds(method.getName() + " takes seven or fewer", method.getParameterCount() <= 7);
                boolean fine = method.getReturnType() == void.class || allowed(method.getReturnType());
                for (Class<?> type : method.getParameterTypes()) {
                    fine &= allowed(type);
                }
                holds(method.getName() + " takes and answers what is allowed", fine);
                for (String face : FACE) {
                    holds(method.getName() + " is not " + face, !face.startsWith(method.getName() + "("));
                }
            }
        }
    }

    /** Of what LANGUAGE.md allows, what the class uses: numbers, rows of them, texts, and its own classes. */
    private static boolean allowed(Class<?> type) {
        List<Class<?>> plain = List.of(int.class, long.class, char.class, boolean.class, int[].class, boolean[].class,
            String.class);
        return plain.contains(type) || type.getDeclaringClass() == CarriedBack.class;
    }

    private static void source(Path file) throws IOException {
        Runs.about("source");
        byte[] bytes = Files.readAllBytes(file);
        boolean plain = true;
        for (byte b : bytes) {
            plain &= b == '\n' || b >= 32 && b < 127;
        }
        holds("signs 32 to 126 alone", plain);
        String code = new String(bytes, StandardCharsets.ISO_8859_1).replaceAll("(?s)/\\*.*?\\*/", "")
            .replaceAll("//[^\n]*", "");
        String[] never = {"throw", "throws", "try", "catch", "finally", "synchronized", "assert", "import", "package",
            "instanceof", "equals", "hashCode", "toString", "Object", "var", "Random", "currentTimeMillis", "nanoTime",
            "protected", "double", "float", "Math.\\w+Exact"};
        for (String word : never) {
            holds("no " + word, !Pattern.compile("\\b" + word + "\\b").matcher(code).find());
        }
        holds("no lambda, no method reference", !code.contains("->") && !code.contains("::"));
        Matcher m = Pattern.compile("\\b(?:Integer|Long|Math|System|Arrays|String)\\.(\\w+)").matcher(code);
        List<String> used = new ArrayList<>();
        while (m.find()) {
            used.add(m.group(1));
        }
        used.removeAll(List.of("bitCount", "min", "max", "arraycopy"));
        holds("no library but what is known to be allowed: " + used, used.isEmpty());
        holds("no text is joined by +", !code.contains("\" +") && !code.contains("+ \""));
        classesAndObjects(code);
        loopsThatEnd(code);
        callsThatAreKnown(code);
        longMethods(code);
        longestChain(code);
    }

    private static int times(String pattern, String code) {
        int found = 0;
        Matcher m = Pattern.compile(pattern).matcher(code);
        while (m.find()) {
            found++;
        }
        return found;
    }

    /** An object is made where a field is, and nowhere else, so that a run makes as many as there are fields. */
    private static void classesAndObjects(String code) {
        int inside = CarriedBack.class.getDeclaredClasses().length;
        Runs.due("classes, none of them local", times("\\bclass\\b", code), inside + 1);
        Runs.due("anonymous classes", times("\\bnew \\w+\\([^;]*\\) *\\{", code), 0);
        Runs.due("static initialiser blocks", times("\\bstatic *\\{", code), 0);
        Runs.due("casts to a class", times("\\([A-Z]\\w*(?:\\[\\])*\\) *[\\w(]", code), 0);
        int fields = 0;
        for (String line : code.split("\n")) {
            if (line.contains("new ")) {
                fields++;
                boolean ofField = line.matches(" +(private )?final [\\w\\[\\]]+ \\w+ = new .*;");
                holds("made with the object: " + line.trim(), ofField);
            }
        }
        holds("objects were found: " + fields, fields > 30);
        Runs.about("an object's room: the rows that are made with it");
        int elements = elementsOf(new CarriedBack(), new IdentityHashMap<>());
        holds("some 9,000 fields and elements: " + elements, elements > 1000 && elements <= 9000);
        Runs.about("source");
    }

    private static int elementsOf(Object one, Map<Object, Object> seen) {
        if (one == null || seen.put(one, one) != null) {
            return 0;
        }
        if (one.getClass().isArray()) {
            return Array.getLength(one);
        }
        int sum = 0;
        for (Field f : one.getClass().getDeclaredFields()) {
            if (!Modifier.isStatic(f.getModifiers())) {
                sum++;
                sum += f.getType().isPrimitive() ? 0 : elementsOf(valueOf(f, one), seen);
            }
        }
        return sum;
    }

    private static Object valueOf(Field f, Object one) {
        try {
            f.setAccessible(true);
            return f.get(one);
        } catch (IllegalAccessException e) {
            throw new IllegalStateException(f.getName(), e);
        }
    }

    /** Each loop's head holds something against a bound. */
    private static void loopsThatEnd(String code) {
        Matcher loop = Pattern.compile("\\b(for|while) \\((.*?)\\) \\{").matcher(code);
        int loops = 0;
        while (loop.find()) {
            loops++;
            holds("a bound: " + loop.group(), Pattern.compile(" (<|<=|>|>=) ").matcher(loop.group(2)).find());
        }
        Runs.due("loops with a head of one line", loops, times("\\b(?:for|while)\\b", code));
        Runs.due("do loops", times("\\bdo\\b", code), 0);
    }

    private static void callsThatAreKnown(String code) {
        Set<String> known = new TreeSet<>(List.of("length", "charAt", "bitCount", "min", "max", "arraycopy"));
        for (Class<?> one : CarriedBack.class.getDeclaredClasses()) {
            for (Method m : one.getDeclaredMethods()) {
                known.add(m.getName());
            }
        }
        Matcher call = Pattern.compile("\\.(\\w+)\\(").matcher(code);
        while (call.find()) {
            holds("known: " + call.group(1), known.contains(call.group(1)));
        }
    }

    /**
     * Methods of one name are taken for one method, so that the chain told may be longer than the real one; one that
     * calls its own name calls that of another class, as there is no recursion, and counts twice.
     */
    private static void longestChain(String code) {
        Map<String, Set<String>> called = new HashMap<>();
        String name = "";
        for (String line : code.split("\n")) {
            Matcher head = Pattern.compile("^(?: {4}){1,2}(?:\\w+ )*\\w+ (\\w+)\\([^()]*\\) \\{$").matcher(line);
            if (head.matches()) {
                name = head.group(1);
                called.putIfAbsent(name, new TreeSet<>());
            } else {
                Matcher call = Pattern.compile("(?<!new )\\b(\\w+)\\(").matcher(line);
                while (call.find() && !name.isEmpty()) {
                    called.get(name).add(call.group(1));
                }
            }
        }
        holds("methods were found: " + called.size(), called.size() > 80);
        for (String one : called.keySet()) {
            holds("at most eight deep: " + one, depth(one, called, 0) <= 8);
        }
    }

    private static int depth(String name, Map<String, Set<String>> called, int above) {
        if (!called.containsKey(name) || above > 20) {
            return above;
        }
        int here = above + (called.get(name).contains(name) ? 2 : 1);
        int deepest = here;
        for (String one : called.get(name)) {
            deepest = Math.max(deepest, one.equals(name) ? here : depth(one, called, here));
        }
        return deepest;
    }

    /** A method's lines run from its head, four or eight blanks in, to the brace that closes it. */
    private static void longMethods(String code) {
        String[] lines = code.split("\n");
        for (int k = 0; k < lines.length; k++) {
            Matcher head = Pattern.compile("^((?: {4}){1,2})\\w[^;=]*\\) \\{$").matcher(lines[k]);
            if (!head.matches()) {
                continue;
            }
            int end = k;
            while (end < lines.length && !lines[end].equals(head.group(1) + "}")) {
                end++;
            }
            holds("sixty lines or fewer: " + lines[k].trim(), end - k < 60);
        }
    }
}
