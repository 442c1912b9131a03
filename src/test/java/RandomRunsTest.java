import java.lang.reflect.Method;
import java.util.ArrayList;
import java.util.List;
import java.util.Random;

/** Runs of 512 calls, mostly sensible, some far off, each held against PlainFiles with all that can be asked behind it. */
public final class RandomRunsTest {
    private static final int CALLS = 512;
    private static final int[] FAR = {
        Integer.MIN_VALUE, Integer.MAX_VALUE, -1, -2, 6, 7, 8, 13, 16, 21, 40, 41, 80, 81, 100, 109, 1000, 65536, 1 << 30
    };
    private static final String LETTERS = "sofdph";

    private final Random random;
    private final HeavyFiles heavy = new HeavyFiles();
    private final PlainFiles plain = new PlainFiles();
    private final List<String> calls = new ArrayList<>();
    private int suits;
    private boolean differs;
    private final int seldom;

    private RandomRunsTest(long seed) {
        random = new Random(seed);
        seldom = seed % 10 == 0 ? 5 : 60;
    }

    private static Object invoke(Object on, String name, int[] with) throws ReflectiveOperationException {
        for (Method method : on.getClass().getDeclaredMethods()) {
            if (method.getName().equals(name) && java.lang.reflect.Modifier.isPublic(method.getModifiers())) {
                Object[] boxed = new Object[with.length];
                for (int i = 0; i < with.length; i++) {
                    boxed[i] = with[i];
                }
                method.setAccessible(true);
                return method.invoke(on, boxed);
            }
        }
        throw new NoSuchMethodException(name);
    }

    private long call(String name, int... with) throws ReflectiveOperationException {
        if (calls.size() >= CALLS || differs) {
            return 0;
        }
        Object got = invoke(heavy, name, with);
        Object due = invoke(plain, name, with);
        calls.add(name + java.util.Arrays.toString(with) + " = " + got + (got.equals(due) ? "" : ", due is " + due));
        differs = !got.equals(due);
        if (heavy.digest() != plain.digest() || heavy.asked() != plain.asked() || heavy.upper() != plain.upper()
            || heavy.lower() != plain.lower() || heavy.finding() != plain.finding()) {
            calls.add("  digest " + heavy.digest() + " " + plain.digest() + " asked " + heavy.asked() + " " + plain.asked()
                + " fraction " + heavy.upper() + "/" + heavy.lower() + " " + plain.upper() + "/" + plain.lower()
                + " finding " + heavy.finding() + " " + plain.finding());
            differs = true;
        }
        for (int f = 1; f <= 5; f++) {
            differs |= heavy.findings(f) != plain.findings(f);
        }
        return ((Number) got).longValue();
    }

    /** A number below a bound, seldom one that is none. */
    private int below(int bound) {
        if (random.nextInt(seldom) == 0) {
            return FAR[random.nextInt(FAR.length)];
        }
        return bound <= 0 ? 0 : random.nextInt(bound);
    }

    private String courtText() {
        StringBuilder text = new StringBuilder();
        suits = random.nextInt(12) == 0 ? 0 : 1 + random.nextInt(6);
        int most = suits < 3 ? 41 : suits == 3 ? 21 : suits == 4 ? 11 : 8;
        text.append(blanks()).append('n').append(random.nextInt(most)).append(':').append(random.nextInt(most));
        for (int i = 0; i < suits; i++) {
            char letter = LETTERS.charAt(random.nextInt(i == 0 ? 5 : 6));
            text.append(blanks()).append(letter).append(1 + random.nextInt(9));
            if (letter == 'd' || letter == 'p') {
                text.append(1 + random.nextInt(random.nextBoolean() ? 3 : 9));
            } else if (letter == 'h') {
                text.append(random.nextInt(i));
            }
        }
        return text.append(blanks()).toString();
    }

    private String blanks() {
        return " ".repeat(random.nextInt(3) == 0 ? random.nextInt(3) : 0);
    }

    private void makeCourt() throws ReflectiveOperationException {
        String text = courtText();
        int t = random.nextInt(4);
        call("text", t, text.length() + (random.nextInt(5) == 0 ? random.nextInt(4) : 0));
        for (int i = 0; i < text.length(); i++) {
            call("put", t, i, text.charAt(i) + 256 * random.nextInt(2));
        }
        call("fault", t);
        call("court", t);
        makeLaying(random.nextInt(6));
        makeLaying(random.nextInt(6));
    }

    private void spoilText() throws ReflectiveOperationException {
        String signs = "n:sofdph 0123456789x-";
        int t = random.nextInt(4);
        call("put", t, random.nextInt(30), signs.charAt(random.nextInt(signs.length())));
        call("fault", t);
    }

    private void makeLaying(int r) throws ReflectiveOperationException {
        int n = (int) Math.max(0, Math.min(40, heavy.count(0)));
        call("row", r, n);
        int each = random.nextInt(4) + 1;
        for (int i = 0; i < n; i++) {
            if (random.nextInt(3) > 0) {
                call("lay", r, i, below(each * 2));
            }
        }
    }

    /** Only what PlainFiles can try out in a short while. */
    private int mostStock() {
        int n = heavy.count(0);
        return n < 3 ? 41 : n == 3 ? 21 : n == 4 ? 11 : 8;
    }

    private void makeStock() throws ReflectiveOperationException {
        int v = random.nextInt(mostStock());
        call("stock", below(2), v);
    }

    private void anyCall() throws ReflectiveOperationException {
        int n = heavy.count(0);
        switch (random.nextInt(46)) {
            case 0 -> call("row", below(6), below(8));
            case 1 -> call("lay", below(6), below(8), below(6));
            case 2 -> call("at", below(6), below(8));
            case 3 -> call("tear", below(6));
            case 4 -> call("copy", below(6), below(6), below(6), below(6), below(6));
            case 5 -> call("mean", below(6));
            case 6 -> call("text", below(4), below(60));
            case 7 -> spoilText();
            case 8 -> call("suit", below(n), below(3));
            case 9, 10 -> call("mark", below(n), below(6));
            case 11 -> makeStock();
            case 12, 13 -> call("damp", below(10));
            case 14 -> call("judge", below(6), below(6));
            case 15 -> call("who", below(6), below(6), below(n));
            case 16, 17 -> call("best", below(6), below(6));
            case 18 -> {
                if (n < 3) {
                    call("fewest", below(6), below(20 + 18 * n));
                }
            }
            case 19 -> call("ways", below(6), below(20 + 12 * n));
            case 20, 21 -> call("sure", below(6));
            case 22 -> call("safe", below(6));
            case 23 -> call("mixed", below(6), below(6), below(5), 4 + below(9));
            case 24 -> call("mix", below(6), below(6));
            case 25 -> call("turns");
            case 26, 27 -> call("from", below(n + 1), below(16), below(16));
            case 28, 29 -> {
                int a = below(16);
                call("answer", below(n), a, below(16), below(a));
            }
            case 30 -> call("lender", below(4), below(mostStock() / 2));
            case 31 -> lendSafely(() -> call("lend", below(16), below(6)));
            case 32 -> lendSafely(() -> call("leaves", below(6), makeShares()));
            case 33 -> lendSafely(() -> call("adds", below(4), below(6)));
            case 34 -> call("when", below(6));
            case 35, 36 -> call("rule", below(6), below(6));
            case 37 -> makeNote();
            case 38 -> call("back", below(heavy.count(4) + 1));
            case 39 -> call("rules");
            case 40 -> call("reply", below(6));
            case 41 -> call("tell", below(6));
            case 42 -> call("keep", below(3));
            case 43 -> call("on", below(3));
            case 44 -> call("count", below(8));
            default -> makeLaying(random.nextInt(6));
        }
    }

    private interface Made {
        void go() throws ReflectiveOperationException;
    }

    /** What PlainFiles does with lenders is dear: only where few SHEETS come together. */
    private void lendSafely(Made what) throws ReflectiveOperationException {
        int all = heavy.stock(0, 0);
        heavy.stock(0, all);
        for (int l = 0; l < 4; l++) {
            int had = heavy.lender(l, 0);
            heavy.lender(l, had);
            all += had;
        }
        if (all < mostStock() || all > 40) {
            what.go();
        }
    }

    private int makeShares() throws ReflectiveOperationException {
        int r = random.nextInt(6);
        if (random.nextInt(4) > 0) {
            int n = random.nextInt(8) == 0 ? below(6) : 4;
            call("row", r, n);
            for (int l = 0; l < n; l++) {
                call("lay", r, l, random.nextInt(24) == 0 ? 990 + below(20) : below(14));
            }
        }
        return r;
    }

    private void makeNote() throws ReflectiveOperationException {
        int r = random.nextInt(6);
        int to = random.nextInt(6);
        makeLaying(r);
        call("rule", below(6), to);
        int won = 0;
        for (int i = 0; i < heavy.count(0); i++) {
            won |= call("who", r, to, i) == 0 ? 1 << i : 0;
        }
        call("note", r, random.nextInt(8) == 0 ? below(64) : won);
        call("rules");
    }

    private boolean run() throws ReflectiveOperationException {
        while (calls.size() < CALLS && !differs) {
            if (calls.isEmpty() && random.nextInt(8) > 0 || random.nextInt(60) == 0) {
                makeCourt();
            } else {
                anyCall();
            }
        }
        return !differs;
    }

    public static void main(String[] args) throws Exception {
        int runs = Integer.getInteger("runs", 250);
        long first = Long.getLong("first", 1);
        int wrong = 0;
        for (long seed = first; seed < first + runs; seed++) {
            RandomRunsTest test = new RandomRunsTest(seed);
            if (!test.run()) {
                wrong++;
                System.out.println("run by seed " + seed + " is not as due:");
                test.calls.forEach(System.out::println);
                break;
            }
        }
        System.out.println(runs + " runs, " + wrong + " not as due");
        if (wrong != 0) {
            System.exit(1);
        }
    }
}
