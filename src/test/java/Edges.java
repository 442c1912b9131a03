import java.util.function.Consumer;
import java.util.function.IntSupplier;

/** What the edge tests share: each case holds one sentence of the document, on an object of its own. */
abstract class Edges {
    static final int BAD = -1, FULL = -2, FINDING = -3, STATE = -4, SPENT = -6, NONE = -9;
    static final int NOTHING = 1, BEYOND = 2, UNLIKE = 3, NOUGHT = 4, SIZE = 5;
    static final int LOW = Integer.MIN_VALUE, HIGH = Integer.MAX_VALUE;
    /** A court of every KIND, STOCKS 20 and 15. */
    static final String SIX = "n20:15 s5 o3 f2 d41 p64 h92";

    private static String sentence = "";
    private static int cases;
    private static int answers;
    private static int inCase;
    private static int wrong;

    static void says(String what, Consumer<HeavyFiles> test) {
        sentence = what;
        cases++;
        inCase = 0;
        try {
            test.accept(new HeavyFiles());
        } catch (RuntimeException thrown) {
            fail("the class threw " + thrown);
        }
    }

    static void end() {
        System.out.println(cases + " sentences, " + answers + " answers, " + wrong + " not as due");
        if (wrong != 0) {
            System.exit(1);
        }
    }

    static void fail(String how) {
        wrong++;
        System.out.println("\"" + sentence + "\": check " + inCase + ": " + how);
    }

    static void due(long got, long want) {
        inCase++;
        answers++;
        if (got != want) {
            fail("answered " + got + ", due is " + want);
        }
    }

    /** A call that told by asked(). */
    static void tells(HeavyFiles x, int got, int told) {
        due(got, 1);
        due(x.asked(), told);
    }

    /** A call that answers and tells by asked(). */
    static void both(HeavyFiles x, int got, int want, int told) {
        due(got, want);
        due(x.asked(), told);
    }

    static void fraction(HeavyFiles x, long up, long low) {
        due(x.upper(), up);
        due(x.lower(), low);
    }

    private static long[] whole(HeavyFiles x) {
        return new long[] {x.digest(), x.asked(), x.upper(), x.lower()};
    }

    private static int[] allFindings(HeavyFiles x) {
        return new int[] {x.finding(), x.findings(1), x.findings(2), x.findings(3), x.findings(4), x.findings(5)};
    }

    private static void stays(HeavyFiles x, long[] before, int[] findings) {
        long[] after = whole(x);
        for (int i = 0; i < before.length; i++) {
            due(after[i], before[i]);
        }
        int[] found = allFindings(x);
        for (int f = 0; f <= SIZE; f++) {
            due(found[f], findings[f]);
        }
    }

    /** Calls that are refused without a finding: they change nothing at all. */
    static void refuses(HeavyFiles x, int answer, IntSupplier... calls) {
        unchanged(x, answer, calls);
    }

    /** Calls that answer and change nothing that can be seen. */
    static void unchanged(HeavyFiles x, int answer, IntSupplier... calls) {
        long[] before = whole(x);
        int[] findings = allFindings(x);
        for (IntSupplier call : calls) {
            due(call.getAsInt(), answer);
        }
        stays(x, before, findings);
    }

    /** Calls that are refused with a finding: they change nothing but finding(), findings(). */
    static void finds(HeavyFiles x, int finding, IntSupplier... calls) {
        long[] before = whole(x);
        int[] findings = allFindings(x);
        for (IntSupplier call : calls) {
            due(call.getAsInt(), FINDING);
            due(x.finding(), finding);
        }
        findings[0] = finding;
        findings[finding] += calls.length;
        stays(x, before, findings);
    }

    static void write(HeavyFiles x, int t, String text) {
        x.text(t, text.length());
        for (int i = 0; i < text.length(); i++) {
            x.put(t, i, text.charAt(i));
        }
    }

    static void court(HeavyFiles x, String text) {
        write(x, 0, text);
        if (x.court(0) < 0) {
            fail("no court: " + text);
        }
    }

    static void lay(HeavyFiles x, int r, int... all) {
        x.row(r, all.length);
        for (int i = 0; i < all.length; i++) {
            if (all[i] != 0) {
                x.lay(r, i, all[i]);
            }
        }
    }

    /** A ROW has just these places. */
    static void holds(HeavyFiles x, int r, int... all) {
        for (int i = 0; i < all.length; i++) {
            tells(x, x.at(r, i), all[i]);
        }
        due(x.at(r, all.length), FINDING);
        due(x.finding(), BEYOND);
    }

    interface RowCall {
        int by(HeavyFiles x, int r);
    }

    /** A call answers something else than a refusal. */
    static void takes(int got) {
        due(got == BAD || got == FULL || got == FINDING || got == STATE || got == SPENT ? got : 1, 1);
    }

    /**
     * What each call does that takes a LAYING of a SIDE in a ROW. The court has 4 SUITS, STOCKS 9 and 7; the call may
     * use ROW 5, which holds 4 times 0, besides.
     */
    static void refusesLayings(String call, int side, RowCall what) {
        says(call + " BAD: a ROW's number", z -> {
            HeavyFiles x = small();
            refuses(x, BAD, () -> what.by(x, -1), () -> what.by(x, 6), () -> what.by(x, LOW), () -> what.by(x, HIGH));
        });
        says(call + " NOTHING: the ROW is missing", z -> {
            HeavyFiles x = small();
            finds(x, NOTHING, () -> what.by(x, 0));
            lay(x, 0, 0, 0, 0, 0);
            x.tear(0);
            finds(x, NOTHING, () -> what.by(x, 0));
        });
        says(call + " SIZE: not as many as SUITS", z -> {
            HeavyFiles x = small();
            for (int n = 0; n <= 40; n = n == 5 ? 40 : n + 1) {
                x.row(0, n);
                if (n != 4) {
                    finds(x, SIZE, () -> what.by(x, 0));
                }
            }
        });
        says(call + " SIZE ahead of UNLIKE", z -> {
            HeavyFiles x = small();
            lay(x, 0, -1, 0, 0);
            finds(x, SIZE, () -> what.by(x, 0));
            lay(x, 0, 0, 0, 0, 0, 41);
            finds(x, SIZE, () -> what.by(x, 0));
        });
        unlikeLayings(call, side, what);
    }

    private static void unlikeLayings(String call, int side, RowCall what) {
        int stock = side == 0 ? 9 : 7;
        says(call + " UNLIKE: a number that is none", z -> {
            int[][] all = {{-1, 0, 0, 0}, {0, 0, 0, -1}, {3, -1, 0, 0}, {LOW, 0, 0, 0}, {0, LOW, LOW, 0}};
            for (int[] one : all) {
                HeavyFiles x = small();
                lay(x, 0, one);
                finds(x, UNLIKE, () -> what.by(x, 0));
            }
        });
        says(call + " UNLIKE: more than 40", z -> {
            int[][] all = {{41, 0, 0, 0}, {0, 0, 0, HIGH}, {HIGH, HIGH, 2, 0}, {1 << 30, 1 << 30, 1 << 30, 1 << 30}};
            for (int[] one : all) {
                HeavyFiles x = small();
                x.stock(side, 40);
                lay(x, 0, one);
                finds(x, UNLIKE, () -> what.by(x, 0));
            }
        });
        says(call + " UNLIKE: more than the STOCK together", z -> {
            HeavyFiles x = small();
            lay(x, 0, 0, 0, 0, stock + 1);
            finds(x, UNLIKE, () -> what.by(x, 0));
            lay(x, 0, 1, 1, stock - 2, 1);
            finds(x, UNLIKE, () -> what.by(x, 0));
        });
        says(call + " takes a LAYING of all the STOCK, of none", z -> {
            HeavyFiles x = small();
            lay(x, 0, 0, 0, 0, stock);
            takes(what.by(x, 0));
            lay(x, 0, 1, 1, stock - 3, 1);
            takes(what.by(x, 0));
            lay(x, 0, 0, 0, 0, 0);
            x.stock(side, 0);
            takes(what.by(x, 0));
        });
        says(call + " taken, it leaves finding(), findings()", z -> {
            HeavyFiles x = small();
            lay(x, 0, 0, 0, 0, stock);
            x.at(0, 4);
            takes(what.by(x, 0));
            due(x.finding(), BEYOND);
            int[] all = {0, 1, 0, 0, 0};
            for (int f = 1; f <= SIZE; f++) {
                due(x.findings(f), all[f - 1]);
            }
        });
        says(call + " goes by the STOCK of SIDE " + side + " as it is now", z -> {
            HeavyFiles x = small();
            lay(x, 0, 2, 0, 1, 1);
            x.stock(side, 4);
            x.stock(1 - side, 0);
            takes(what.by(x, 0));
            x.stock(side, 3);
            x.stock(1 - side, 9);
            finds(x, UNLIKE, () -> what.by(x, 0));
        });
    }

    static HeavyFiles small() {
        HeavyFiles x = new HeavyFiles();
        court(x, "n9:7 s5 o3 d41 h70");
        x.row(5, 4);
        return x;
    }

    static HeavyFiles with(String text) {
        HeavyFiles x = new HeavyFiles();
        court(x, text);
        return x;
    }
}
