import java.lang.reflect.InvocationTargetException;
import java.lang.reflect.Method;
import java.util.Arrays;
import java.util.HashMap;
import java.util.LinkedHashSet;
import java.util.Map;
import java.util.Set;

/**
 * Each call with each mix of numbers at and beside its bounds, in some states, held against the plain model: which
 * of several refusals comes first is seen wherever two can meet.
 */
public final class GridTest {
    private static final int MIN = Integer.MIN_VALUE;
    private static final int MAX = Integer.MAX_VALUE;
    /** So that an object is used for fewer than 512 calls. */
    private static final int CALLS_OF_ONE = 300;

    /** A call's name and what each of its numbers is. */
    private static final String[] CALLS = {"breach", "change change what", "sets change slot", "ahead behind slot",
        "fault fault what", "count what", "cut behind", "line line what", "value line slot", "clash line change",
        "pick line change", "undo line change", "needs line change", "carry line change", "apart line change change",
        "cost line faults", "best line picks risk what", "later line picks", "release line day",
        "released release what", "notes release release what", "differs release release", "freed fault line",
        "danger fault day day", "every line every", "soonest fault day", "ready line far", "orders line changes",
        "order line changes row place", "whence line slot", "strayed line", "bestCut behind behind what",
        "up release fault what", "spans fault line row what", "lets line change day", "keep image", "goBack image"};

    private static final String[] NEW = {};
    private static final String[] EMPTY_LINES = {"cut 0", "cut 0", "release 1 0", "every 1 9"};
    private static final String[] BUSY = {TrunkTest.TRUNK, "trunk", "freeze 10 20;risk 5;only 0,2;", "policy", "cut 1",
        "cut 4", "cut 0", "every 0 7", "every 2 99", "release 0 5", "release 1 6", "keep 0", "pick 0 1",
        "release 0 10", "pick 2 0", "pick 2 3", "release 2 20", "change x", "trunk", "change;"};
    private static final String[] FULL = {"change;".repeat(24) + "fault 9 from 0 till 23;".repeat(5)
        + "fault 3 from 1;".repeat(5), "trunk", "cut 24", "cut 23", "cut 1", "cut 0", "every 1 3", "every 2 4",
        "release 1 0", "release 2 0", "release 0 0", "release 3 0", "release 1 500", "release 2 500", "release 0 500",
        "release 3 500", "release 1 900", "release 2 900", "release 0 900", "release 3 900", "release 2 998",
        "release 2 998", "release 2 998", "release 2 998", "release 2 998", "release 2 998", "release 2 998",
        "release 2 998", "keep 1"};
    private static final String[] CHAINED = {LinesEdgesTest.chain() + "fault 9 from 0 till 23;fault 8 from 1;", "trunk",
        "weigh 9;", "policy", "cut 0", "cut 1", "cut 23", "cut 24", "every 1 99", "every 2 98", "release 1 3",
        "release 3 3", "undo 3 23", "release 3 7", "keep 0", "keep 1"};

    private static final Map<String, Method> METHODS = new HashMap<>();

    private final String[] script;
    private CarriedBack x;
    private PlainModel model;
    private int used;
    private final Map<String, int[]> numbers = new HashMap<>();

    private GridTest(String[] script) {
        this.script = script;
        begin();
        gather();
    }

    public static void main(String[] args) {
        for (Class<?> one : new Class<?>[] {CarriedBack.class, PlainModel.class}) {
            for (Method m : one.getDeclaredMethods()) {
                m.setAccessible(true);
                METHODS.putIfAbsent(one.getName() + "." + m.getName() + "/" + m.getParameterCount(), m);
            }
        }
        String[] names = {"a new object", "an empty trunk", "busy", "full", "a chain"};
        String[][] scripts = {NEW, EMPTY_LINES, BUSY, FULL, CHAINED};
        for (int k = 0; k < scripts.length; k++) {
            Runs.about(names[k]);
            new GridTest(scripts[k]).run();
        }
        Runs.close();
    }

    // ---- states

    /** A step is a call with its numbers, or a text that is fed. */
    private void begin() {
        x = new CarriedBack();
        model = new PlainModel();
        used = 0;
        for (String step : script) {
            String[] words = step.split(" ");
            if (METHODS.containsKey("CarriedBack." + words[0] + "/" + (words.length - 1)) && !step.endsWith(";")) {
                int[] values = new int[words.length - 1];
                for (int k = 0; k < values.length; k++) {
                    values[k] = Integer.parseInt(words[k + 1]);
                }
                both(words[0], values);
            } else {
                feed(step);
            }
        }
    }

    private void feed(String text) {
        for (int k = 0; k < text.length(); k++) {
            model.feed(1, text.charAt(k));
        }
        Runs.feed(x, text);
        used += 1 + text.length() / 8;
    }

    // ---- numbers

    private static int[] around(int many, int limit, int... more) {
        int[] all = {-1, 0, 1, 2, many - 1, many, limit - 1, limit, 32, 33, MIN, MAX};
        int[] both = Arrays.copyOf(all, all.length + more.length);
        System.arraycopy(more, 0, both, all.length, more.length);
        Set<Integer> once = new LinkedHashSet<>();
        for (int v : both) {
            once.add(v);
        }
        return once.stream().mapToInt(Integer::intValue).toArray();
    }

    private void gather() {
        int changes = x.count(0);
        int faults = x.count(1);
        int releases = x.count(3);
        int last = releases == 0 ? 0 : x.released(releases - 1, 1);
        numbers.put("change", around(changes, 24));
        numbers.put("behind", around(changes + 1, 25));
        numbers.put("slot", new int[] {-1, 0, 1, 15, 16, 32, MIN, MAX});
        numbers.put("line", new int[] {-1, 0, 1, 2, 3, 4, 32, MIN, MAX});
        numbers.put("fault", around(faults, 10));
        numbers.put("release", around(releases, 20));
        numbers.put("image", new int[] {-1, 0, 1, 2, 32, MIN, MAX});
        numbers.put("what", new int[] {-1, 0, 1, 2, 3, 4, 5, MIN, MAX});
        numbers.put("day", around(last + 1, 1000, last - 1, last + 1));
        numbers.put("picks", new int[] {-1, 0, 1, 2, 22, 23, 24, 25, MIN, MAX});
        numbers.put("risk", new int[] {-1, 0, 1, 2, 98, 99, 100, MIN, MAX});
        numbers.put("every", new int[] {-1, 0, 1, 98, 99, 100, MIN, MAX});
        numbers.put("far", new int[] {0, 1});
        numbers.put("faults", new int[] {0, 1, 2, 3, (1 << faults) - 1, 1 << faults, 1 << 10, -1, MIN, MAX});
        // few that can go on side by side, as the model makes all rows; and more than eight
        numbers.put("changes", new int[] {0, 1, 2, 6, 0x0c, 0x1e, 0x1ff, 0xffffff, 7 << 20, 1 << 23, 1 << changes,
            1 << changes | 1, -1, MIN, MAX});
        numbers.put("row", new int[] {-2, -1, 0, 1, 2, 5, 6, 23, 24, MIN, MAX});
        numbers.put("place", new int[] {-1, 0, 1, 2, 3, 4, 8, MIN, MAX});
    }

    // ---- calls

    private void run() {
        for (String call : CALLS) {
            String[] words = call.split(" ");
            mix(words, new int[words.length - 1], 0);
        }
    }

    private void mix(String[] words, int[] values, int place) {
        if (place == values.length) {
            if (used > CALLS_OF_ONE) {
                begin();
            }
            int answer = both(words[0], values);
            if (answer > CarriedBack.UNKNOWN && changes(words[0])) {
                begin();
            }
            return;
        }
        for (int v : numbers.get(words[place + 1])) {
            values[place] = v;
            mix(words, values, place + 1);
        }
    }

    /** Whether a call that is not refused changes what is so. */
    private static boolean changes(String name) {
        return Arrays.asList("cut", "pick", "undo", "carry", "release", "every", "keep", "goBack").contains(name);
    }

    private int both(String name, int[] values) {
        used++;
        int got = asked(x, name, values);
        Runs.due(name + Arrays.toString(values), got, asked(model, name, values));
        return got;
    }

    private static int asked(Object one, String name, int[] values) {
        Method m = METHODS.get(one.getClass().getName() + "." + name + "/" + values.length);
        Object[] numbers = new Object[values.length];
        for (int k = 0; k < values.length; k++) {
            boolean flag = m.getParameterTypes()[k] == boolean.class;
            if (flag) {
                numbers[k] = values[k] != 0;
            } else {
                numbers[k] = values[k];
            }
        }
        try {
            return (Integer) m.invoke(one, numbers);
        } catch (IllegalAccessException | InvocationTargetException e) {
            throw new IllegalStateException(name + Arrays.toString(values), e);
        }
    }
}
