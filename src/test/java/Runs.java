import java.nio.charset.StandardCharsets;
import java.util.List;

/** What the tests share: feeding of texts, and calls whose answers are held against those that are due. */
final class Runs {
    /** A state to begin with: an object, made anew each time. */
    interface State {
        CarriedBack made();
    }

    /** One call. */
    interface Call {
        int on(CarriedBack x);
    }

    private static int calls = 0;
    private static int wrong = 0;
    private static String about = "";

    private Runs() {
    }

    static void about(String what) {
        about = what;
    }

    static void due(String call, int got, int want) {
        calls++;
        if (got != want) {
            wrong++;
            System.out.println(about + ": " + call + " answered " + got + ", due is " + want);
        }
    }

    /** That all that can be seen of an object is as it is of another one. */
    static void same(String what, CarriedBack got, CarriedBack want) {
        same(what, Seen.of(got), Seen.of(want));
    }

    static void same(String what, List<String> got, List<String> want) {
        calls++;
        String difference = Seen.difference(got, want);
        if (!difference.isEmpty()) {
            wrong++;
            System.out.println(about + ": " + what + ": " + difference);
        }
    }

    /** A call in a state: what it answers, and that it leaves all as it was. */
    static void leaves(State state, String call, Call asked, int want) {
        CarriedBack x = state.made();
        due(call, asked.on(x), want);
        same(call + " leaves all as it was", x, state.made());
    }

    static void close() {
        System.out.println(calls + " answers looked at, " + wrong + " not as due");
        if (wrong != 0 || calls == 0) {
            System.exit(1);
        }
    }

    /** Feeds a text whole, in pieces of eight bytes and a rest. */
    static void feed(CarriedBack x, String text) {
        byte[] bytes = text.getBytes(StandardCharsets.ISO_8859_1);
        for (int from = 0; from < bytes.length; from += 8) {
            int n = Math.min(8, bytes.length - from);
            long packed = 0;
            for (int k = 0; k < n; k++) {
                packed = packed << 8 | bytes[from + k] & 255;
            }
            x.feed(n, packed);
        }
    }

    static int trunk(CarriedBack x, String text) {
        feed(x, text);
        return x.trunk();
    }

    static int policy(CarriedBack x, String text) {
        feed(x, text);
        return x.policy();
    }

    /** A new object with a trunk that has no breach. */
    static CarriedBack of(String text) {
        CarriedBack x = new CarriedBack();
        if (trunk(x, text) < 0) {
            throw new IllegalArgumentException("breach at " + x.breach() + " of " + text);
        }
        return x;
    }
}
