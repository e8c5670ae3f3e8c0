import java.lang.reflect.InvocationTargetException;
import java.lang.reflect.Method;
import java.util.ArrayList;
import java.util.List;
import java.util.Map;
import java.util.Random;
import java.util.TreeMap;

/** Long runs of calls, drawn by fixed seeds, on the class and its twin: all answers must agree. */
public final class TwinTest {
    private static final int RUNS = 700;
    private static final int CALLS = 512;
    private static final int MOST_PRINTED = 20;

    /** A call's name and, pair by pair, the least and the greatest number of each argument. */
    private static final Object[][] FACE = {
        {"towns", 2, 6},
        {"road", 0, 5, 0, 5, 0, 9, 0, 2},
        {"shop", 0, 5, 0, 2, 0, 20},
        {"stock", 0, 5, 0, 4, 0, 9},
        {"person", 0, 3, 0, 5, 0, 4, 0, 4, 0, 99},
        {"leave", 0, 3},
        {"set", 0, 1, 0, 9},
        {"say", 33, 126},
        {"wipe"},
        {"fault"},
        {"judge", 0, 1},
        {"done"},
        {"state", 0, 3, 0, 6},
        {"behind", 0, 3, 0, 6},
        {"trodden", 0, 5, 0, 5, 0, 2},
        {"givesOut", 1, 99, 0, 2},
        {"far", 0, 5, 0, 5, 0, 1},
        {"way", 0, 3, 0, 5, -1, 5},
        {"shod", 0, 3, 0, 3},
        {"round", 0, 3, 0, 63, -1, 5},
        {"together", 1, 15, 0, 5, 0, 5, 0, 2},
        {"parted", 0, 5, 0, 5, 0, 1},
        {"pairs", 0, 5, 0, 5, 0, 4, 0, 1},
        {"rests", -1, 12},
        {"owner", 0, 1},
        {"track", 0, 6, 0, 6, 0, 2},
        {"seen", 0, 3, 0, 5},
        {"forget"},
        {"filled", -1, 2},
        {"spy", 0, 1},
        {"shut", 0, 3, 0, 10, 0, 1},
        {"year", 0, 9999, 1, 99, 0, 2},
        {"image", 0, 1},
        {"restore", 0, 1},
        {"told", 0, 700},
    };

    private static final int[] EXTREMES = {Integer.MIN_VALUE, Integer.MIN_VALUE + 1, -1000000, -7, -6,
        -2, 7, 100, 127, 65537, 1 << 30, Integer.MAX_VALUE - 1, Integer.MAX_VALUE};

    private final Random random;
    private final OddShoes shoes = new OddShoes();
    private final Twin twin = new Twin();
    private final List<String> calls = new ArrayList<>();
    private int wrong = 0;

    private static final Map<String, Map<Boolean, Integer>> TALLY = new TreeMap<>();
    private static final Map<String, Method> OURS = new TreeMap<>();
    private static final Map<String, Method> THEIRS = new TreeMap<>();

    private TwinTest(long seed) {
        random = new Random(seed);
    }

    public static void main(String[] args) throws Exception {
        for (Object[] row : FACE) {
            find((String) row[0], row.length / 2);
        }
        int wrong = 0;
        for (int run = 0; run < RUNS && wrong < MOST_PRINTED; run++) {
            TwinTest test = new TwinTest(1000003L * run + 17);
            test.run(run);
            wrong += test.wrong;
        }
        for (Object[] row : FACE) {
            Map<Boolean, Integer> tally = TALLY.get(row[0]);
            if (tally == null || tally.getOrDefault(true, 0) < 50) {
                wrong++;
                System.out.println(row[0] + " was hardly ever answered: " + tally);
            }
        }
        System.out.println(RUNS + " runs against the twin, " + wrong + " wrong; answered and refused or none: " + TALLY);
        if (wrong != 0) {
            System.exit(1);
        }
    }

    private static void find(String name, int arguments) throws Exception {
        Class<?>[] types = new Class<?>[arguments];
        java.util.Arrays.fill(types, int.class);
        OURS.put(name, OddShoes.class.getMethod(name, types));
        Method theirs = Twin.class.getDeclaredMethod(name, types);
        theirs.setAccessible(true);
        THEIRS.put(name, theirs);
    }

    private void run(int run) throws Exception {
        settle();
        while (calls.size() < CALLS && wrong == 0) {
            int kind = random.nextInt(20);
            if (kind == 0) {
                tellDay();
            } else if (kind == 1) {
                changeRoads();
            } else if (kind == 2 && random.nextInt(40) == 0) {
                settle();
            } else if (kind == 3) {
                askOfShoes(random.nextInt(4));
            } else {
                askAny();
            }
        }
        if (wrong != 0) {
            System.out.println("run " + run + ": " + calls);
        }
    }

    private void settle() throws Exception {
        int n = 2 + random.nextInt(5);
        call("towns", n);
        changeRoads();
        for (int t = 0; t < n; t++) {
            call("shop", t, random.nextInt(3), random.nextInt(21) / (1 + random.nextInt(4)));
            for (int s = 0; s < 3; s++) {
                int size = random.nextInt(4) == 0 ? random.nextInt(5) : 1 + random.nextInt(2);
                call("stock", t, size, random.nextInt(10));
            }
        }
        for (int p = 0; p < 4; p++) {
            if (random.nextInt(5) > 0) {
                call("person", p, random.nextInt(n), random.nextInt(2) + 1, random.nextInt(2) + 1, random.nextInt(100) / (1 + random.nextInt(5)));
            }
        }
    }

    private void changeRoads() throws Exception {
        int dense = 1 + random.nextInt(4);
        boolean ruled = random.nextBoolean();
        for (int a = 0; a < twin.w.n; a++) {
            for (int b = a + 1; b < twin.w.n; b++) {
                if (random.nextInt(4) < dense) {
                    int rule = ruled ? random.nextInt(3) : 0;
                    call("road", a, b, 1 + random.nextInt(random.nextBoolean() ? 3 : 9), rule);
                }
            }
        }
    }

    /** Mostly of steps that can be, some of whose people are then not told. */
    private void tellDay() throws Exception {
        call("wipe");
        Twin.World v = twin.w.copy();
        int steps = random.nextInt(4) == 0 ? 30 : random.nextInt(12);
        StringBuilder text = new StringBuilder();
        for (int i = 0; i < steps; i++) {
            char who = (char) ('A' + random.nextInt(4));
            char deed = "aabbccddeeff+++++-".charAt(random.nextInt(18));
            for (int turn = 0; turn < 40 && v.why(who, deed) != 0; turn++) {
                who = (char) ('A' + random.nextInt(4));
                deed = "abcdef++++++++".charAt(random.nextInt(6 + random.nextInt(9)));
            }
            boolean can = v.why(who, deed) == 0;
            if (can) {
                v.step(who, deed);
            }
            if (can || random.nextInt(10) == 0) {
                text.append(who).append(deed);
            }
        }
        boolean hide = random.nextInt(3) == 0;
        for (int i = 0; i < text.length(); i++) {
            char sign = text.charAt(i);
            if (hide && i % 2 == 0 && random.nextInt(text.length()) < 4) {
                sign = '?';
            }
            if (random.nextInt(400) == 0) {
                sign = (char) (33 + random.nextInt(94));
            }
            call("say", sign);
        }
        askOfDay(v);
    }

    private void askOfDay(Twin.World v) throws Exception {
        call("fault");
        call("judge", 0);
        call("judge", 1);
        for (int i = 0; i < 3; i++) {
            call("givesOut", 1 + random.nextInt(30), i);
            call("filled", i - 1);
        }
        int person = random.nextInt(4);
        if (random.nextBoolean()) {
            call("seen", person, v.people[person].at);
        }
        call("filled", -1);
        call("filled", 0);
        call("behind", person, random.nextInt(7));
        if (random.nextInt(3) > 0) {
            call("done");
            call("state", person, random.nextInt(7));
        }
    }

    private void askOfShoes(int person) throws Exception {
        for (int what = 0; what < 4; what++) {
            call("shod", person, what);
        }
        int tenths = random.nextInt(11);
        call("shut", person, tenths, 0);
        call("shut", person, tenths, 1);
        int set = random.nextInt(1 << twin.w.n);
        for (int i = -1; i < 4; i++) {
            call("round", person, set, i);
            call("way", person, set % twin.w.n, i);
        }
    }

    private void askAny() throws Exception {
        Object[] row = FACE[random.nextInt(FACE.length)];
        String name = (String) row[0];
        boolean rare = name.equals("towns") || name.equals("leave") || name.equals("wipe") || name.equals("say");
        if (rare && random.nextInt(15) > 0) {
            return;
        }
        int[] arguments = new int[row.length / 2];
        for (int i = 0; i < arguments.length; i++) {
            int least = (Integer) row[2 * i + 1];
            int most = (Integer) row[2 * i + 2];
            arguments[i] = least + random.nextInt(most - least + 1);
            int odd = random.nextInt(60);
            arguments[i] = odd == 0 ? least - 1 : odd == 1 ? most + 1 : arguments[i];
            arguments[i] = odd == 2 ? EXTREMES[random.nextInt(EXTREMES.length)] : arguments[i];
        }
        if (random.nextInt(8) > 0) {
            makeLikely(name, row, arguments);
        }
        call(name, arguments);
    }

    /** Towns that there are, people who are there, things that are told: or most calls are refused. */
    private void makeLikely(String name, Object[] row, int[] arguments) {
        for (int i = 0; i < arguments.length; i++) {
            if (row[2 * i + 1].equals(0) && row[2 * i + 2].equals(5)) {
                arguments[i] = random.nextInt(twin.w.n);
            }
        }
        if (name.equals("together")) {
            arguments[0] &= twin.told(2);
        }
        if (name.equals("round")) {
            arguments[1] &= (1 << twin.w.n) - 1;
        }
        if (name.equals("told")) {
            int[] parts = {0, 10, 20, 100 + 100 * random.nextInt(6)};
            arguments[0] = parts[random.nextInt(4)] + random.nextInt(6) + 10 * random.nextInt(3);
        }
    }

    private void call(String name, int... arguments) throws Exception {
        if (calls.size() >= CALLS) {
            return;
        }
        Object[] boxed = new Object[arguments.length];
        for (int i = 0; i < arguments.length; i++) {
            boxed[i] = arguments[i];
        }
        long want = ((Number) THEIRS.get(name).invoke(twin, boxed)).longValue();
        String text = name + java.util.Arrays.toString(arguments);
        calls.add(text);
        try {
            long got = ((Number) OURS.get(name).invoke(shoes, boxed)).longValue();
            if (got != want) {
                wrong++;
                System.out.println(text + " answered " + got + ", due is " + want);
            }
        } catch (InvocationTargetException e) {
            wrong++;
            System.out.println(text + " threw " + e.getCause());
        }
        TALLY.computeIfAbsent(name, k -> new TreeMap<>()).merge(want >= 0, 1, Integer::sum);
    }
}
