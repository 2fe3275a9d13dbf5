import java.lang.reflect.Method;
import java.util.ArrayList;
import java.util.List;
import java.util.Map;
import java.util.Random;

/** Runs of random calls, each asked of TellerDays and of the Model: all answers must be the same. */
public final class ModelTest {
    private static final int[] EDGES = {Integer.MIN_VALUE, -1000000, -4, -3, -2, -1, 10, 11, 13, 24, 25, 30, 31, 40, 41,
        60, 61, 99, 120, 255, 256, 999, 1000000, Integer.MAX_VALUE - 1, Integer.MAX_VALUE};
    private static final Map<String, Integer> WEIGHTS = Map.of("serve", 4, "come", 14, "dismiss", 2, "swap", 4, "row", 3,
        "set", 12, "undo", 4, "who", 12, "sums", 8, "stayed", 8);
    /** What each argument is mostly taken from (least, most); names as in the document's face. */
    private static final Map<String, int[]> RANGES = Map.ofEntries(
        Map.entry("row", new int[] {0, 2, 0, 2, 0, 14}), Map.entry("set", new int[] {0, 2, 0, 12, 0, 60}),
        Map.entry("copy", new int[] {0, 2, 0, 5, 0, 2, 0, 5, 0, 6}), Map.entry("drop", new int[] {0, 7}),
        Map.entry("serve", new int[] {1, 3}), Map.entry("counter", new int[] {0, 3, 0, 1}),
        Map.entry("come", new int[] {0, 1, 1, 30}), Map.entry("teller", new int[] {0, 3, 0, 4}),
        Map.entry("paper", new int[] {0, 6, 0, 2}), Map.entry("cost", new int[] {0, 3, 1, 30}),
        Map.entry("queue", new int[] {0, 7}), Map.entry("ahead", new int[] {0, 3, 0, 60}),
        Map.entry("waiting", new int[] {0, 9}), Map.entry("server", new int[] {0, 6}),
        Map.entry("order", new int[] {-2, 7}), Map.entry("share", new int[] {-1, 7}),
        Map.entry("open", new int[] {0, 1}), Map.entry("cheap", new int[] {1, 30, 0, 1}),
        Map.entry("twins", new int[] {0, 1}), Map.entry("who", new int[] {0, 3, 0, 1, 0, 3, 0, 2, 0, 1, 1, 3}),
        Map.entry("sums", new int[] {0, 3, 0, 2, 0, 1, 1, 3}), Map.entry("stayed", new int[] {0, 3, 0, 2, 0, 1, 1, 3}),
        Map.entry("away", new int[] {0, 10, 0, 1}), Map.entry("drawn", new int[] {0, 60, 1, 999999, 0, 1}),
        Map.entry("image", new int[] {0, 1}), Map.entry("restore", new int[] {0, 1}),
        Map.entry("kind", new int[] {0, 3}), Map.entry("as", new int[] {0, 3, 0, 5}),
        Map.entry("ask", new int[] {0, 3, 0, 1}), Map.entry("trace", new int[] {0, 7}),
        Map.entry("count", new int[] {0, 7}), Map.entry("feed", new int[] {0, 255}));

    private final Random random;
    private final Pair pair = new Pair();
    private final List<Method> calls = new ArrayList<>();

    private ModelTest(long seed) {
        random = new Random(seed);
        for (Method m : Pair.face()) {
            for (int k = WEIGHTS.getOrDefault(m.getName(), 2); k > 0; k--) {
                calls.add(m);
            }
        }
    }

    public static void main(String[] args) throws ReflectiveOperationException {
        int runs = args.length > 0 ? Integer.parseInt(args[0]) : 400;
        long from = args.length > 1 ? Long.parseLong(args[1]) : 0;
        for (long seed = from; seed < from + runs; seed++) {
            new ModelTest(seed).run();
        }
        Check.end();
    }

    private void run() throws ReflectiveOperationException {
        for (int k = 0; k < 400 && pair.age() < 512; k++) {
            int choice = random.nextInt(60);
            if (choice == 0 || k == 5) {
                if (!pair.read(random.nextInt(3) == 0 ? spoilt(text()) : text())) return;
            } else if (choice < 5) {
                if (!tellTheTruth()) return;
            } else {
                Method m = calls.get(random.nextInt(calls.size()));
                if (!pair.same(m.getName(), arguments(m))) return;
            }
        }
    }

    private Object[] arguments(Method m) {
        Object[] some = new Object[m.getParameterCount()];
        int[] range = RANGES.get(m.getName());
        int odd = random.nextInt(8) == 0 ? random.nextInt(some.length + 1) : some.length;
        for (int k = 0; k < some.length; k++) {
            some[k] = k == odd ? EDGES[random.nextInt(EDGES.length)]
                : range[2 * k] + random.nextInt(range[2 * k + 1] - range[2 * k] + 1);
        }
        return some;
    }

    /** A ROW becomes what a TELLER really will have LEFT, so that something fits it. */
    private boolean tellTheTruth() throws ReflectiveOperationException {
        int tellers = pair.model.count(1);
        if (tellers == 0) return true;
        int row = random.nextInt(3), t = random.nextInt(tellers), n = 1 + random.nextInt(12);
        if (!pair.same("row", row, random.nextInt(3), n)) return false;
        for (int i = 0; i < n; i++) {
            if (!pair.same("set", row, i, pair.model.ahead(t, i + 1))) return false;
        }
        int less = 1 + random.nextInt(n);
        return pair.same("who", random.nextInt(tellers), 0, t, row, 0, less) && pair.same("who", random.nextInt(tellers), 1, t, row, 0, less)
            && pair.same("sums", t, row, 0, less) && pair.same("stayed", t, row, 0, less);
    }

    private String text() {
        StringBuilder s = new StringBuilder("b").append(random.nextInt(random.nextBoolean() ? 6 : 21)).append(',')
            .append(1 + random.nextInt(random.nextBoolean() ? 4 : 20)).append(';');
        for (int t = random.nextInt(4); t >= 0; t--) {
            s.append("ckoyn".charAt(random.nextInt(5))).append(random.nextInt(random.nextBoolean() ? 20 : 61)).append(',')
                .append(1 + random.nextInt(9)).append(';');
        }
        // Seven in THE QUEUE are dear to the Model, so they are rarer than fewer.
        for (int p = random.nextInt(random.nextInt(8) == 0 ? 8 : 6); p > 0; p--) {
            s.append("dddp".charAt(random.nextInt(4))).append(1 + random.nextInt(30)).append(';');
        }
        return s.toString();
    }

    private String spoilt(String text) {
        StringBuilder s = new StringBuilder(text);
        String signs = "bckoyndpxz0123456789,;,;;; A/:\u0000\u00ff`{";
        for (int k = 1 + random.nextInt(2); k > 0; k--) {
            int at = random.nextInt(s.length());
            char sign = signs.charAt(random.nextInt(signs.length()));
            switch (random.nextInt(4)) {
                case 0 -> s.setCharAt(at, sign);
                case 1 -> s.insert(at, sign);
                case 2 -> s.setLength(Math.max(1, at));
                default -> s.append(random.nextBoolean() ? "c5,5;" : "d7;d7;d7;d7;d7;d7;d7;");
            }
        }
        return s.toString();
    }
}
