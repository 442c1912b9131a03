/** Each promise of the document by itself: ordinary inputs, the edges that it names, wrong inputs. */
public final class PromiseTest {
    private static final int BAD = -1, FULL = -2, FINDING = -3, STATE = -4, SPENT = -6, NONE = -9;
    private static final int NOTHING = 1, BEYOND = 2, UNLIKE = 3, NOUGHT = 4, SIZE = 5;
    private static final String SIX = "n20:15 s5 o3 f2 d41 p64 h92";
    private static int checks;
    private static int wrong;
    private static String promise = "";

    private PromiseTest() {
    }

    private static void due(String call, long got, long want) {
        checks++;
        if (got != want) {
            wrong++;
            System.out.println(promise + ": " + call + " answered " + got + ", due is " + want);
        }
    }

    private static void finds(HeavyFiles x, String call, int got, int finding) {
        due(call, got, FINDING);
        due(call + ", finding()", x.finding(), finding);
    }

    private static void tells(HeavyFiles x, String call, int got, int told) {
        due(call, got, 1);
        due(call + ", asked()", x.asked(), told);
    }

    private static void fraction(HeavyFiles x, String call, long up, long low) {
        due(call + ", upper()", x.upper(), up);
        due(call + ", lower()", x.lower(), low);
    }

    /** Refused calls must leave all as it was. */
    private static void stays(HeavyFiles x, long digest, int asked) {
        due("digest() behind refusals", x.digest(), digest);
        due("asked() behind refusals", x.asked(), asked);
    }

    private static void write(HeavyFiles x, int t, String text) {
        x.text(t, text.length());
        for (int i = 0; i < text.length(); i++) {
            x.put(t, i, text.charAt(i));
        }
    }

    private static HeavyFiles with(String text) {
        HeavyFiles x = new HeavyFiles();
        write(x, 0, text);
        if (x.court(0) < 0) {
            wrong++;
            System.out.println(promise + ": no court: " + text);
        }
        return x;
    }

    private static void lay(HeavyFiles x, int r, int... all) {
        x.row(r, all.length);
        for (int i = 0; i < all.length; i++) {
            x.lay(r, i, all[i]);
        }
    }

    private static void rowIs(HeavyFiles x, String call, int r, int... all) {
        due(call + ": the place behind its row", x.at(r, all.length), FINDING);
        for (int i = 0; i < all.length; i++) {
            x.at(r, i);
            due(call + ": place " + i, x.asked(), all[i]);
        }
    }

    private static int faultOf(String text) {
        HeavyFiles x = new HeavyFiles();
        write(x, 1, text);
        return x.fault(1);
    }

    private interface RowCall {
        int by(HeavyFiles x, int r);
    }

    /** What every call does that takes a LAYING of a SIDE (STOCK 20, 15) in a row. */
    private static void refusesLayings(String call, int side, RowCall what) {
        HeavyFiles x = with(SIX);
        x.stock(side, 9);
        due(call + " of row -1", what.by(x, -1), BAD);
        due(call + " of row 6", what.by(x, 6), BAD);
        due("finding()", x.finding(), 0);
        finds(x, call + " of a missing row", what.by(x, 5), NOTHING);
        lay(x, 5, 1, 2, 3, 0, 0);
        finds(x, call + " of 5 places", what.by(x, 5), SIZE);
        lay(x, 5, 1, 2, 3, 0, 0, 0, 0);
        finds(x, call + " of 7 places", what.by(x, 5), SIZE);
        lay(x, 5, 1, 2, 3, 0, 0, 4);
        finds(x, call + " of 10 sheets of 9", what.by(x, 5), UNLIKE);
        lay(x, 5, 1, 2, -1, 0, 0, 0);
        finds(x, call + " of -1 sheets", what.by(x, 5), UNLIKE);
        lay(x, 5, Integer.MAX_VALUE, Integer.MAX_VALUE, 2, 0, 0, 0);
        finds(x, call + " of sheets that wrap around", what.by(x, 5), UNLIKE);
        lay(x, 5, 1, 2, 3, 0, 0, 3);
        due(call + " of 9 sheets of 9", what.by(x, 5) == FINDING ? 1 : 0, 0);
    }

    private static void newObject() {
        HeavyFiles x = new HeavyFiles();
        for (int what = 0; what <= 7; what++) {
            due("count(" + what + ")", x.count(what), 0);
        }
        due("stock(0, 0)", x.stock(0, 0), 0);
        due("stock(1, 0)", x.stock(1, 0), 0);
        due("damp(0)", x.damp(0), 0);
        due("asked()", x.asked(), 0);
        due("upper()", x.upper(), 0);
        due("lower()", x.lower(), 1);
        due("finding()", x.finding(), 0);
        long h = 17;
        for (int i = 0; i < 8 + 3 + 4; i++) {
            h = 31 * h;
        }
        for (int i = 0; i < 3 + 6 + 4; i++) {
            h = 31 * h - 1;
        }
        due("digest()", x.digest(), h);
    }

    private static void row() {
        HeavyFiles x = new HeavyFiles();
        due("row(0, 0)", x.row(0, 0), 0);
        due("row(5, 40)", x.row(5, 40), 40);
        due("count(6)", x.count(6), 2);
        x.lay(5, 39, 7);
        due("row(5, 3)", x.row(5, 3), 3);
        due("row(5, 40)", x.row(5, 40), 40);
        tells(x, "at(5, 39)", x.at(5, 39), 0);
        due("row(-1, 3)", x.row(-1, 3), BAD);
        due("row(6, -3)", x.row(6, -3), BAD);
        due("row(1, 41)", x.row(1, 41), BAD);
        due("finding()", x.finding(), 0);
        finds(x, "row(1, -1)", x.row(1, -1), SIZE);
        due("count(6)", x.count(6), 2);
    }

    private static void lay() {
        HeavyFiles x = new HeavyFiles();
        x.row(2, 3);
        tells(x, "lay(2, 0, 8)", x.lay(2, 0, 8), 0);
        tells(x, "lay(2, 2, MIN)", x.lay(2, 2, Integer.MIN_VALUE), 0);
        tells(x, "lay(2, 0, 1)", x.lay(2, 0, 1), 8);
        tells(x, "lay(2, 2, 0)", x.lay(2, 2, 0), Integer.MIN_VALUE);
        long digest = x.digest();
        due("lay(6, 0, 1)", x.lay(6, 0, 1), BAD);
        finds(x, "lay(3, 9, 1)", x.lay(3, 9, 1), NOTHING);
        finds(x, "lay(2, 3, 1)", x.lay(2, 3, 1), BEYOND);
        finds(x, "lay(2, -1, 1)", x.lay(2, -1, 1), BEYOND);
        stays(x, digest, Integer.MIN_VALUE);
    }

    private static void at() {
        HeavyFiles x = new HeavyFiles();
        lay(x, 2, 4, -5);
        tells(x, "at(2, 0)", x.at(2, 0), 4);
        tells(x, "at(2, 1)", x.at(2, 1), -5);
        due("at(-1, 0)", x.at(-1, 0), BAD);
        finds(x, "at(1, 0)", x.at(1, 0), NOTHING);
        finds(x, "at(2, 2)", x.at(2, 2), BEYOND);
        finds(x, "at(2, MIN)", x.at(2, Integer.MIN_VALUE), BEYOND);
        due("asked()", x.asked(), -5);
    }

    private static void tear() {
        HeavyFiles x = new HeavyFiles();
        x.row(4, 0);
        due("tear(4)", x.tear(4), 1);
        due("count(6)", x.count(6), 0);
        finds(x, "tear(4)", x.tear(4), NOTHING);
        due("tear(6)", x.tear(6), BAD);
    }

    private static void copy() {
        HeavyFiles x = new HeavyFiles();
        lay(x, 0, 1, 2, 3, 4, 5);
        due("copy(0, 0, 0, 1, 4)", x.copy(0, 0, 0, 1, 4), 1);
        rowIs(x, "copy ahead", 0, 1, 1, 2, 3, 4);
        due("copy(0, 2, 0, 0, 3)", x.copy(0, 2, 0, 0, 3), 1);
        rowIs(x, "copy back", 0, 2, 3, 4, 3, 4);
        x.row(1, 2);
        due("copy(0, 3, 1, 0, 2)", x.copy(0, 3, 1, 0, 2), 1);
        rowIs(x, "copy to another", 1, 3, 4);
        due("copy(0, 5, 1, 2, 0)", x.copy(0, 5, 1, 2, 0), 1);
        due("copy(6, 0, 1, 0, -1)", x.copy(6, 0, 1, 0, -1), BAD);
        due("copy(0, 0, -1, 0, 1)", x.copy(0, 0, -1, 0, 1), BAD);
        finds(x, "copy(3, 0, 1, 0, -1)", x.copy(3, 0, 1, 0, -1), SIZE);
        finds(x, "copy(3, 9, 1, 0, 1)", x.copy(3, 9, 1, 0, 1), NOTHING);
        finds(x, "copy(0, 9, 3, 0, 1)", x.copy(0, 9, 3, 0, 1), NOTHING);
        finds(x, "copy(0, 6, 1, 0, 0)", x.copy(0, 6, 1, 0, 0), BEYOND);
        finds(x, "copy(0, 0, 1, 3, 0)", x.copy(0, 0, 1, 3, 0), BEYOND);
        finds(x, "copy(0, -1, 1, 0, 0)", x.copy(0, -1, 1, 0, 0), BEYOND);
        finds(x, "copy(0, 0, 1, -1, 0)", x.copy(0, 0, 1, -1, 0), BEYOND);
        finds(x, "copy(0, 3, 1, 0, 3)", x.copy(0, 3, 1, 0, 3), BEYOND);
        finds(x, "copy(0, 0, 1, 1, 2)", x.copy(0, 0, 1, 1, 2), BEYOND);
        finds(x, "copy(0, 1, 1, 1, MAX)", x.copy(0, 1, 1, 1, Integer.MAX_VALUE), BEYOND);
        finds(x, "copy(0, MAX, 1, 1, MAX)", x.copy(0, Integer.MAX_VALUE, 1, 1, Integer.MAX_VALUE), BEYOND);
        rowIs(x, "refused copies", 1, 3, 4);
    }

    private static void mean() {
        HeavyFiles x = new HeavyFiles();
        lay(x, 0, 3, 4);
        tells(x, "mean of 3, 4", x.mean(0), 3);
        lay(x, 0, -3, -4);
        tells(x, "mean of -3, -4", x.mean(0), -3);
        lay(x, 0, Integer.MAX_VALUE, Integer.MAX_VALUE, Integer.MAX_VALUE);
        tells(x, "mean of great ones", x.mean(0), Integer.MAX_VALUE);
        x.row(1, 0);
        due("mean(6)", x.mean(6), BAD);
        finds(x, "mean(2)", x.mean(2), NOTHING);
        finds(x, "mean(1)", x.mean(1), NOUGHT);
        due("asked()", x.asked(), Integer.MAX_VALUE);
    }

    private static void text() {
        HeavyFiles x = new HeavyFiles();
        due("text(3, 80)", x.text(3, 80), 80);
        due("text(0, 0)", x.text(0, 0), 0);
        due("count(7)", x.count(7), 2);
        due("put(3, 79, 1)", x.put(3, 79, 1), 1032);
        due("text(3, 80) anew", x.text(3, 80), 80);
        due("put(3, 79, 1) anew", x.put(3, 79, 1), 1032);
        due("text(4, 1)", x.text(4, 1), BAD);
        due("text(-1, -1)", x.text(-1, -1), BAD);
        due("text(0, 81)", x.text(0, 81), BAD);
        finds(x, "text(0, -1)", x.text(0, -1), SIZE);
    }

    private static void put() {
        HeavyFiles x = new HeavyFiles();
        x.text(1, 2);
        due("put(1, 0, 128)", x.put(1, 0, 128), 1032);
        due("put(1, 0, 255)", x.put(1, 0, 255), 1000 - 128);
        due("put(1, 0, -129)", x.put(1, 0, -129), 999);
        due("put(1, 0, 256 + 9)", x.put(1, 0, 256 + 9), 1127);
        due("put(1, 0, 0)", x.put(1, 0, 0), 1009);
        due("put(4, 0, 1)", x.put(4, 0, 1), BAD);
        finds(x, "put(0, 0, 1)", x.put(0, 0, 1), NOTHING);
        finds(x, "put(1, 2, 1)", x.put(1, 2, 1), BEYOND);
        finds(x, "put(1, -1, 1)", x.put(1, -1, 1), BEYOND);
    }

    private static void fault() {
        String[] good = {SIX, "n0:0", "  n40:40   ", "n08:7s5o3d41h70", "n1:1 s1 h10 h11", "n00:00s1s1s1s1s1s1  "};
        for (String text : good) {
            due("fault of '" + text + "'", faultOf(text), NONE);
        }
        Object[][] bad = {
            {"", 0}, {"   ", 3}, {"n", 1}, {"n4", 2}, {"n4:", 3}, {"x", 0}, {" N4:4", 1}, {"n 4:4", 1}, {"n4 :4", 2},
            {"n4: 4", 3}, {"n41:4", 3}, {"n41", 3}, {"n4:41", 5}, {"n4:99 s1", 5}, {"n400:4", 3}, {"n4:400", 5},
            {"n4:4 4", 5}, {"n4:4 s", 6}, {"n4:4 s0", 6}, {"n4:4 s 1", 6}, {"n4:4 s12", 7}, {"n4:4 d1", 7},
            {"n4:4 d10", 7}, {"n4:4 d1 2", 7}, {"n4:4 p0", 6}, {"n4:4 p10", 7}, {"n4:4 h10", 7}, {"n4:4 s1h11", 9},
            {"n4:4 s1h1", 9}, {"n4:4 s1h10h12", 12}, {"n4:4 t1", 5}, {"n4:4 s1s1s1s1s1s1s1", 17},
            {"n4:4 s1s1s1s1s1s1  9", 19}, {"n-4:4", 1}, {"n4;4", 2}, {"n4:4 s1\t", 7}
        };
        for (Object[] one : bad) {
            due("fault of '" + one[0] + "'", faultOf((String) one[0]), (int) one[1]);
        }
        HeavyFiles x = new HeavyFiles();
        due("fault(4)", x.fault(4), BAD);
        finds(x, "fault(0)", x.fault(0), NOTHING);
        x.text(0, 1);
        x.put(0, 0, -1);
        due("fault of -1", x.fault(0), 0);
    }

    private static void court() {
        HeavyFiles x = with(SIX);
        due("stock", x.stock(0, 20), 20);
        due("stock", x.stock(1, 15), 15);
        x.damp(4);
        x.lender(2, 5);
        lay(x, 0, 0, 0, 0, 0, 0, 0);
        x.note(0, 0);
        x.keep(1);
        write(x, 1, "n3:4 o2 ");
        due("court(1)", x.court(1), 1);
        due("count(4)", x.count(4), 0);
        due("count(5)", x.count(5), 0);
        due("damp", x.damp(0), 0);
        due("lender", x.lender(2, 0), 0);
        due("stock", x.stock(0, 3), 3);
        due("stock", x.stock(1, 4), 4);
        due("count(6): rows stay", x.count(6), 1);
        write(x, 2, "n3:4 o");
        long digest = x.digest();
        due("court(2)", x.court(2), STATE);
        due("court(4)", x.court(4), BAD);
        finds(x, "court(3)", x.court(3), NOTHING);
        due("digest()", x.digest(), digest);
        write(x, 2, " n3:4 ");
        due("court without suits", x.court(2), 0);
    }

    private static void suit() {
        HeavyFiles x = with(SIX);
        int[][] all = {{0, 5, NONE}, {1, 3, NONE}, {2, 2, NONE}, {3, 4, 1}, {4, 6, 4}, {5, 9, 2}};
        for (int i = 0; i < 6; i++) {
            for (int what = 0; what < 3; what++) {
                tells(x, "suit(" + i + ", " + what + ")", x.suit(i, what), all[i][what]);
            }
        }
        due("suit(6, 0)", x.suit(6, 0), BAD);
        due("suit(-1, 0)", x.suit(-1, 0), BAD);
        due("suit(0, 3)", x.suit(0, 3), BAD);
        due("suit(0, -1)", x.suit(0, -1), BAD);
        due("asked()", x.asked(), 2);
    }

    private static void mark() {
        HeavyFiles x = with("n9:25 o1 h20 f3 p47 h50 d53");
        x.damp(2);
        due("OWN", x.mark(0, 1), 3);
        due("HANGING as OWN", x.mark(1, 1), 3);
        due("FLY", x.mark(2, 2), 3);
        due("PILE as DAMP", x.mark(3, 3), 14);
        due("PILE", x.mark(3, 4), 3);
        x.stock(0, 40);
        due("PILE", x.mark(3, 4), 5);
        due("DAMP", x.mark(5, 3), 6);
        due("HANGING: none hangs on it", x.mark(1, 5), 0);
        write(x, 1, "n9:25 o1 h20 h31 h41");
        x.court(1);
        due("HANGING: two hang on it", x.mark(1, 5), 2);
        due("mark(0, 0)", x.mark(0, 0), BAD);
        due("mark(0, 6)", x.mark(0, 6), BAD);
        due("mark(4, 1)", x.mark(4, 1), BAD);
        due("mark(-1, 1)", x.mark(-1, 1), BAD);
        finds(x, "an OWN as HANGING", x.mark(0, 5), UNLIKE);
        finds(x, "a HANGING as DAMP", x.mark(1, 3), UNLIKE);
    }

    private static void stock() {
        HeavyFiles x = new HeavyFiles();
        due("stock(0, 40)", x.stock(0, 40), 0);
        due("stock(0, 0)", x.stock(0, 0), 40);
        due("stock(1, 7)", x.stock(1, 7), 0);
        due("stock(1, 8)", x.stock(1, 8), 7);
        due("stock(2, 1)", x.stock(2, 1), BAD);
        due("stock(-1, 1)", x.stock(-1, 1), BAD);
        due("stock(0, 41)", x.stock(0, 41), BAD);
        due("stock(0, -1)", x.stock(0, -1), BAD);
        due("stock(0, 0)", x.stock(0, 0), 0);
    }

    private static void damp() {
        HeavyFiles x = new HeavyFiles();
        due("damp(9)", x.damp(9), 0);
        due("damp(10)", x.damp(10), BAD);
        due("damp(-1)", x.damp(-1), BAD);
        due("damp(0)", x.damp(0), 9);
    }

    private static void judge() {
        HeavyFiles x = with(SIX);
        lay(x, 0, 3, 1, 0, 0, 4, 2);
        lay(x, 1, 2, 1, 1, 1, 3, 2);
        // s won 10, o even is own 6, f lighter wins 4, d lost 0, p 4 against nothing 12, h has 2 more 18
        due("judge", x.judge(0, 1), 50);
        due("asked()", x.asked(), 8);
        x.damp(9);
        lay(x, 1, 3, 2, 0, 0, 4, 2);
        // s nobody 5, o lost, f nobody 2, d nobody 4, p nobody 6, h even without bonus is own 18
        due("judge", x.judge(0, 1), 35);
        due("asked()", x.asked(), 23);
        HeavyFiles y = new HeavyFiles();
        y.row(0, 0);
        due("judge without suits", y.judge(0, 0), 0);
        refusesLayings("judge, own", 0, (z, r) -> {
            lay(z, 4, 0, 0, 0, 0, 0, 0);
            return z.judge(r, 4);
        });
        refusesLayings("judge, other", 1, (z, r) -> {
            lay(z, 4, 0, 0, 0, 0, 0, 0);
            return z.judge(4, r);
        });
        x.row(2, 5);
        finds(x, "judge(2, 3)", x.judge(2, 3), NOTHING);
        x.lay(0, 0, 41);
        finds(x, "judge(0, 2)", x.judge(0, 2), SIZE);
    }

    private static void who() {
        HeavyFiles x = with(SIX);
        x.damp(3);
        lay(x, 0, 4, 3, 1, 1, 3, 2);
        lay(x, 1, 4, 3, 0, 0, 4, 3);
        int[] by = {NONE, 0, 1, 0, 1, 1};
        int[] above = {0, 0, 1, 4, 16, 3};
        for (int i = 0; i < 6; i++) {
            due("who(0, 1, " + i + ")", x.who(0, 1, i), by[i]);
            due("who(0, 1, " + i + "), asked()", x.asked(), above[i]);
        }
        due("who(0, 1, 6)", x.who(0, 1, 6), BAD);
        due("who(0, 1, -1)", x.who(0, 1, -1), BAD);
        due("who(5, 6, 0)", x.who(5, 6, 0), BAD);
        due("asked()", x.asked(), 3);
        refusesLayings("who, other", 1, (z, r) -> {
            lay(z, 4, 0, 0, 0, 0, 0, 0);
            return z.who(4, r, 0);
        });
    }

    private static void best() {
        HeavyFiles x = with("n5:6 s3 s3 o2");
        lay(x, 1, 2, 2, 1);
        // 3 sheets win a s, 1 the o: 3 on a s and 2 on the other one are 6 and 3; 3 and 1 are 6 and 4
        due("best", x.best(1, 2), 10);
        due("asked()", x.asked(), 4);
        rowIs(x, "best", 2, 0, 3, 1);
        lay(x, 1, 0, 0, 0);
        x.stock(0, 0);
        due("best of none", x.best(1, 1), 10);
        due("asked()", x.asked(), 0);
        rowIs(x, "best comes to its own row, too", 1, 0, 0, 0);
        due("best(1, 6)", x.best(1, 6), BAD);
        refusesLayings("best", 1, (z, r) -> z.best(r, 4));
        HeavyFiles y = with("n1:0 f4");
        lay(y, 0, 0);
        due("best of a FLY", y.best(0, 1), 4);
        due("asked()", y.asked(), 0);
    }

    private static void fewest() {
        HeavyFiles x = with("n0:40 s5 o3 p44");
        lay(x, 1, 3, 2, 0);
        due("fewest(1, 0)", x.fewest(1, 0), 0);
        due("asked()", x.asked(), 4);
        due("fewest(1, 5)", x.fewest(1, 5), 2);
        due("asked()", x.asked(), 10);
        due("fewest(1, 11)", x.fewest(1, 11), 4);
        due("asked()", x.asked(), 14);
        due("fewest(1, 24)", x.fewest(1, 24), 10);
        due("fewest(1, 25)", x.fewest(1, 25), NONE);
        due("asked()", x.asked(), 24);
        lay(x, 1, 40, 0, 0);
        due("more than 40 on none", x.fewest(1, 20), NONE);
        due("40 make it even", x.fewest(1, 19), 44);
        HeavyFiles y = with("n0:40 s9 s9 s9 s9 s9 p99");
        lay(y, 0, 0, 0, 0, 39, 1, 0);
        due("fewest(0, 108)", y.fewest(0, 108), 1 + 1 + 1 + 40 + 2 + 9);
        due("fewest(0, 108), asked()", y.asked(), 108);
        due("fewest(1, 109)", x.fewest(1, 109), BAD);
        due("fewest(1, -1)", x.fewest(1, -1), BAD);
        refusesLayings("fewest", 1, (z, r) -> z.fewest(r, 4));
    }

    private static void ways() {
        HeavyFiles x = with("n2:3 s1 s2");
        lay(x, 1, 1, 1);
        // (0,0) 0 (0,1) 2 (0,2) 4 (1,0) 1 (1,1) 3 (2,0) 2
        due("ways(1, 2)", x.ways(1, 2), 4);
        fraction(x, "ways(1, 2)", 2, 3);
        due("ways(1, 4)", x.ways(1, 4), 1);
        fraction(x, "ways(1, 4)", 1, 6);
        due("ways(1, 5)", x.ways(1, 5), 0);
        fraction(x, "ways(1, 5)", 0, 1);
        HeavyFiles y = with("n6:1 o9 o9 o9 o9 o9 o9");
        lay(y, 0, 0, 0, 0, 0, 0, 1);
        // all but those that leave the last one bare: C(12, 6) less C(11, 5)
        due("ways(0, 108)", y.ways(0, 108), 462);
        fraction(y, "ways(0, 108)", 1, 2);
        x.stock(0, 13);
        due("ways(6, 1)", x.ways(6, 1), BAD);
        due("ways(1, 109)", x.ways(1, 109), BAD);
        due("ways(5, 1)", x.ways(5, 1), SPENT);
        x.stock(0, 12);
        due("ways(1, 0)", x.ways(1, 0), 91);
        refusesLayings("ways", 1, (z, r) -> {
            z.stock(0, 12);
            return z.ways(r, 4);
        });
    }

    private static void sure() {
        HeavyFiles x = with("n9:3 s5 o4 f1");
        lay(x, 0, 3, 2, 0);
        // 3 on the o: 10 + 0 + 2 (the f flew); 3 on the s make it even: 5 + 8 + 1
        due("sure(0)", x.sure(0), 11);
        lay(x, 0, 4, 4, 0);
        due("sure(0)", x.sure(0), 19);
        x.stock(1, 0);
        lay(x, 0, 0, 0, 0);
        due("sure(0)", x.sure(0), 14);
        refusesLayings("sure", 0, HeavyFiles::sure);
    }

    private static void safe() {
        HeavyFiles x = with("n3:2 s5 s4 s1");
        // (2, 0, 0) would make 5, 4 and 1, or 10, 0 and 0
        due("safe(2)", x.safe(2), 11);
        rowIs(x, "safe", 2, 2, 0, 1);
        HeavyFiles y = with("n2:2 o5 o5");
        due("safe(2) of even ones", y.safe(2), 10);
        rowIs(y, "safe", 2, 0, 1);
        x.stock(0, 11);
        due("safe(6)", x.safe(6), BAD);
        due("safe(2)", x.safe(2), SPENT);
        due("safe(2) of 5 suits", with("n1:1 s1s1s1s1s1").safe(2), SPENT);
        HeavyFiles none = with("n1:1");
        due("safe(2) of no suits", none.safe(2), 0);
        due("count(6)", none.count(6), 1);
    }

    private static void mixed() {
        HeavyFiles x = with("n2:1 s3 s3");
        lay(x, 0, 2, 0);
        lay(x, 1, 0, 2);
        // (0,0): 9, 9; (1,0): 9, 6; (0,1): 6, 9
        due("mixed(0, 1, 1, 2)", x.mixed(0, 1, 1, 2), 1);
        fraction(x, "mixed(0, 1, 1, 2)", 15, 2);
        due("mixed(0, 1, 33, 99)", x.mixed(0, 1, 33, 99), 1);
        fraction(x, "mixed(0, 1, 33, 99)", 7, 1);
        due("mixed(0, 1, 0, 1)", x.mixed(0, 1, 0, 1), 1);
        fraction(x, "mixed(0, 1, 0, 1)", 6, 1);
        due("mixed(0, 0, 1, 1)", x.mixed(0, 0, 1, 1), 1);
        x.stock(1, 11);
        int[][] bad = {{6, 1, 0, 1}, {0, -1, 0, 1}, {0, 1, 0, 0}, {0, 1, 0, 100}, {0, 1, -1, 5}, {0, 1, 6, 5}};
        for (int[] one : bad) {
            due("bad mixed", x.mixed(one[0], one[1], one[2], one[3]), BAD);
        }
        due("mixed(5, 5, 0, 1)", x.mixed(5, 5, 0, 1), SPENT);
        x.stock(1, 10);
        finds(x, "mixed(0, 5, 0, 1)", x.mixed(0, 5, 0, 1), NOTHING);
        x.row(5, 1);
        finds(x, "mixed(5, 1, 0, 1)", x.mixed(5, 1, 0, 1), SIZE);
        lay(x, 5, 3, 0);
        finds(x, "mixed(0, 5, 0, 1)", x.mixed(0, 5, 0, 1), UNLIKE);
    }

    private static void mix() {
        HeavyFiles x = with("n2:1 s3 s3");
        lay(x, 0, 2, 0);
        lay(x, 1, 0, 2);
        due("mix(0, 1)", x.mix(0, 1), 6);
        fraction(x, "mix(0, 1)", 15, 2);
        due("mix(0, 0): the least", x.mix(0, 0), 0);
        fraction(x, "mix(0, 0)", 6, 1);
        lay(x, 2, 0, 0);
        due("mix(0, 2)", x.mix(0, 2), 12);
        due("mix(2, 0)", x.mix(2, 0), 0);
        HeavyFiles y = with("n4:1 o7 f1 o1");
        lay(y, 0, 0, 0, 0);
        lay(y, 1, 1, 2, 0);
        // against none 17, 16; on the first 3, 16; on the last 15, 14
        due("mix(0, 1): one of 12", y.mix(0, 1), 1);
        fraction(y, "mix(0, 1)", 169, 12);
        x.stock(1, 11);
        due("mix(6, 0)", x.mix(6, 0), BAD);
        due("mix(5, 0)", x.mix(5, 0), SPENT);
        due("mix of 5 suits", with("n1:1 s1s1s1s1s1").mix(0, 1), SPENT);
        x.stock(1, 1);
        finds(x, "mix(0, 5)", x.mix(0, 5), NOTHING);
        x.row(5, 3);
        finds(x, "mix(0, 5)", x.mix(0, 5), SIZE);
        lay(x, 5, 0, -1);
        finds(x, "mix(5, 0)", x.mix(5, 0), UNLIKE);
    }

    private static void turns() {
        HeavyFiles x = with("n2:1 s3 s2");
        // one sheet on each: SIDE 1 can make one of them even
        due("turns()", x.turns(), 1);
        due("turns(), asked()", x.asked(), 4);
        x.stock(0, 1);
        due("turns(): 1 against 1", x.turns(), 1);
        due("turns(), asked()", x.asked(), 0);
        x.stock(1, 16);
        due("turns()", x.turns(), SPENT);
        x.stock(1, 15);
        due("turns()", x.turns(), 0);
        due("turns(): 1 against 15", x.asked(), -10);
        x.stock(0, 16);
        due("turns()", x.turns(), SPENT);
        x.stock(0, 15);
        due("turns(): 15 against 15", x.turns() >= 0 ? 1 : 0, 1);
        HeavyFiles none = with("n1:1");
        none.row(0, 1);
        none.lay(0, 0, 7);
        none.at(0, 0);
        due("turns() of no suits", none.turns(), NONE);
        due("asked()", none.asked(), 7);
        none.stock(1, 16);
        due("turns() of no suits, too many sheets", none.turns(), SPENT);
        HeavyFiles hanging = with("n1:1 o1 h90");
        // as an OWN one: 1 on it is even at least
        due("turns() with a hanging one", hanging.turns(), 0);
        due("turns(), asked()", hanging.asked(), 16);
    }

    private static void from() {
        HeavyFiles x = with("n40:40 d52 f4");
        tells(x, "from(2, 3, 3)", x.from(2, 3, 3), 0);
        tells(x, "from(1, 3, 3)", x.from(1, 3, 3), 0);
        tells(x, "from(0, 0, 1)", x.from(0, 0, 1), -10);
        tells(x, "from(0, 15, 15)", x.from(0, 15, 15), 0);
        x.damp(9);
        tells(x, "from(0, 1, 0)", x.from(0, 1, 0), 10);
        due("from(3, 0, 0)", x.from(3, 0, 0), BAD);
        due("from(-1, 0, 0)", x.from(-1, 0, 0), BAD);
        due("from(0, 16, 0)", x.from(0, 16, 0), BAD);
        due("from(0, 0, 16)", x.from(0, 0, 16), BAD);
        due("from(0, -1, 0)", x.from(0, -1, 0), BAD);
        due("asked()", x.asked(), 10);
    }

    private static void answer() {
        HeavyFiles x = with("n0:0 s3 o2");
        due("3 for the other one are better", x.answer(0, 5, 3, 3), 0);
        due("2 more win both", x.answer(0, 2, 5, 2), 3);
        due("none is enough to let it go", x.answer(0, 5, 3, 5), 0);
        due("even is not his", x.answer(1, 2, 2, 2), 0);
        due("one more is", x.answer(1, 2, 4, 2), 3);
        due("answer(2, 0, 0, 0)", x.answer(2, 0, 0, 0), BAD);
        due("answer(0, 3, 3, 4)", x.answer(0, 3, 3, 4), BAD);
        due("answer(0, 3, 3, -1)", x.answer(0, 3, 3, -1), BAD);
        due("answer(0, 16, 3, 4)", x.answer(0, 16, 3, 4), BAD);
        due("answer(0, 3, 16, 3)", x.answer(0, 3, 16, 3), BAD);
        due("asked()", x.asked(), 0);
    }

    private static void lender() {
        HeavyFiles x = new HeavyFiles();
        due("lender(3, 20)", x.lender(3, 20), 0);
        due("lender(3, 0)", x.lender(3, 0), 20);
        due("lender(4, 1)", x.lender(4, 1), BAD);
        due("lender(-1, 1)", x.lender(-1, 1), BAD);
        due("lender(0, 21)", x.lender(0, 21), BAD);
        due("lender(0, -1)", x.lender(0, -1), BAD);
        due("lender(0, 0)", x.lender(0, 0), 0);
    }

    private static HeavyFiles lent(int... all) {
        HeavyFiles x = with("n0:9 o3 o5");
        lay(x, 1, 2, 4);
        for (int l = 0; l < all.length; l++) {
            x.lender(l, all[l]);
        }
        return x;
    }

    private static void lend() {
        HeavyFiles x = lent(2, 2, 2, 20);
        due("lend(0, 1)", x.lend(0, 1), 0);
        due("lend(1, 1)", x.lend(1, 1), 6);
        due("lend(6, 1)", x.lend(6, 1), 10);
        due("lend(7, 1)", x.lend(7, 1), 16);
        due("lend(15, 1)", x.lend(15, 1), 16);
        x.stock(0, 20);
        due("lend(8, 1)", x.lend(8, 1), 0);
        due("lend(9, 1)", x.lend(9, 1), SPENT);
        due("lend(16, 1)", x.lend(16, 1), BAD);
        due("lend(-1, 1)", x.lend(-1, 1), BAD);
        finds(x, "lend(9, 5)", x.lend(9, 5), NOTHING);
        refusesLayings("lend", 1, (z, r) -> {
            for (int l = 0; l < 4; l++) {
                z.lender(l, 20);
            }
            return z.lend(15, r);
        });
    }

    private static void leaves() {
        HeavyFiles y = lent(4, 2, 0, 0);
        lay(y, 0, 10, 6, 0, 0);
        due("shares that are fair", y.leaves(1, 0), 0);
        lay(y, 0, 9, 7, 0, 0);
        due("the first one leaves", y.leaves(1, 0), 1);
        HeavyFiles x = lent(2, 2, 2, 0);
        lay(x, 0, 6, 5, 5, 0);
        due("no shares are fair", x.leaves(1, 0), 2);
        lay(x, 0, 6, 6, 4, 0);
        due("the third one leaves", x.leaves(1, 0), 4);
        x.lender(0, 1);
        x.lender(1, 1);
        x.lender(2, 2);
        // 0, 6 by two of 1, by one of 2; 6 of 3; 10 of 4
        lay(x, 0, 2, 2, 6, 0);
        due("two leave", x.leaves(1, 0), 3);
        lay(x, 0, 6, 6, 6, 0);
        due("too much in all", x.leaves(1, 0), 15);
        lay(x, 0, 6, 6, 6, 999);
        due("far too much in all", x.leaves(1, 0), 15);
        due("leaves(6, 0)", x.leaves(6, 0), BAD);
        due("leaves(1, -1)", x.leaves(1, -1), BAD);
        finds(x, "leaves(1, 5)", x.leaves(1, 5), NOTHING);
        lay(x, 5, 6, 6, 6);
        finds(x, "leaves(1, 5)", x.leaves(1, 5), SIZE);
        lay(x, 5, 6, 6, 6, 1000);
        finds(x, "leaves(1, 5)", x.leaves(1, 5), UNLIKE);
        lay(x, 5, 6, 6, 6, -1);
        finds(x, "leaves(1, 5)", x.leaves(1, 5), UNLIKE);
        x.lender(3, 20);
        x.stock(0, 16);
        lay(x, 0, 0, 0, 0, 0);
        due("40 in all, of no use", x.leaves(1, 0), 0);
        x.stock(0, 17);
        finds(x, "leaves(1, 5)", x.leaves(1, 5), UNLIKE);
        due("leaves(1, 0)", x.leaves(1, 0), SPENT);
        refusesLayings("leaves", 1, (z, r) -> {
            lay(z, 4, 0, 0, 0, 0);
            return z.leaves(r, 4);
        });
    }

    private static void adds() {
        HeavyFiles x = lent(2, 2, 2, 0);
        // all three are alike: 16 by 3
        for (int l = 0; l < 3; l++) {
            due("adds(" + l + ", 1)", x.adds(l, 1), 1);
            fraction(x, "adds(" + l + ", 1)", 16, 3);
        }
        due("adds(3, 1)", x.adds(3, 1), 1);
        fraction(x, "adds(3, 1)", 0, 1);
        HeavyFiles y = lent(4, 2, 0, 0);
        // 0 first 10, behind 1 10; 1 first 6, behind 0 6
        due("adds(0, 1)", y.adds(0, 1), 1);
        fraction(y, "adds(0, 1)", 10, 1);
        y.lender(3, 20);
        y.stock(0, 14);
        due("40 in all", y.adds(0, 1), 1);
        y.stock(0, 15);
        due("adds(4, 1)", y.adds(4, 1), BAD);
        finds(y, "adds(0, 5)", y.adds(0, 5), NOTHING);
        due("adds(0, 1)", y.adds(0, 1), SPENT);
        refusesLayings("adds", 1, (z, r) -> z.adds(0, r));
    }

    private static void when() {
        HeavyFiles x = with("n4:9 d42 p35");
        lay(x, 0, 5, 3);
        x.damp(7);
        // the DAMP weighs for both or against nothing: no day is better than another
        due("when", x.when(0), 0);
        due("asked()", x.asked(), 3);
        due("damp(7): it stays", x.damp(7), 7);
        x.stock(0, 5);
        due("when", x.when(0), 0);
        due("asked()", x.asked(), 7);
        due("upper(): no fraction", x.upper(), 0);
        x.tear(0);
        finds(x, "when(0)", x.when(0), NOTHING);
        due("asked()", x.asked(), 7);
        due("when(-1)", x.when(-1), BAD);
        due("when(6)", x.when(6), BAD);
        refusesLayings("when", 1, HeavyFiles::when);
    }

    private static void rule() {
        HeavyFiles x = with("n9:11 s2 s5 s5 s3");
        int[][] all = {{3, 3, 3, 2}, {3, 3, 3, 2}, {11, 0, 0, 0}, {0, 0, 0, 11}, {0, 11, 0, 0}, {0, 0, 0, 0}};
        for (int which = 0; which < 6; which++) {
            due("rule(" + which + ", 2)", x.rule(which, 2), which == 5 ? 0 : 11);
            rowIs(x, "rule(" + which + ", 2)", 2, all[which]);
        }
        HeavyFiles worth = with("n9:7 s1 s9 s1");
        due("rule(1, 0)", worth.rule(1, 0), 7);
        rowIs(worth, "WORTH", 0, 2, 5, 0);
        lay(x, 0, 4, 0, 5, 0);
        x.note(0, 0);
        lay(x, 0, 1, 2, 3, 3);
        x.note(0, 0);
        due("rule(5, 2)", x.rule(5, 2), 9);
        rowIs(x, "BACK", 2, 1, 2, 3, 3);
        x.stock(1, 5);
        due("rule(5, 2)", x.rule(5, 2), 5);
        rowIs(x, "BACK as far as it goes", 2, 1, 2, 2, 0);
        due("rule(6, 2)", x.rule(6, 2), BAD);
        due("rule(-1, 2)", x.rule(-1, 2), BAD);
        due("rule(0, 6)", x.rule(0, 6), BAD);
        finds(x, "rule without suits", courtless(x).rule(0, 2), NOUGHT);
    }

    private static HeavyFiles courtless(HeavyFiles x) {
        write(x, 3, "n5:5");
        x.court(3);
        return x;
    }

    private static void note() {
        HeavyFiles x = with("n4:4 s1 s2");
        lay(x, 0, 3, 1);
        due("note(0, 4)", x.note(0, 4), BAD);
        due("note(0, -1)", x.note(0, -1), BAD);
        due("note(6, 0)", x.note(6, 0), BAD);
        for (int k = 0; k < 8; k++) {
            due("note " + k, x.note(0, 3), k);
        }
        finds(x, "note(5, 0)", x.note(5, 0), NOTHING);
        due("note(0, 3)", x.note(0, 3), FULL);
        due("count(4)", x.count(4), 8);
        x.lay(0, 0, 4);
        finds(x, "note(0, 0)", x.note(0, 0), UNLIKE);
        refusesLayings("note", 0, (z, r) -> z.note(r, 63));
        HeavyFiles none = with("n1:1");
        none.row(0, 0);
        due("note without suits", none.note(0, 0), 0);
        due("note without suits", none.note(0, 1), BAD);
    }

    private static void back() {
        HeavyFiles x = with("n4:4 s1 s2");
        lay(x, 0, 3, 1);
        due("back(0)", x.back(0), 0);
        x.note(0, 1);
        x.note(0, 2);
        x.note(0, 3);
        due("back(4)", x.back(4), BAD);
        due("back(-1)", x.back(-1), BAD);
        due("back(3)", x.back(3), 0);
        due("back(1)", x.back(1), 2);
        due("count(4)", x.count(4), 1);
        due("note(0, 0)", x.note(0, 0), 1);
    }

    private static void rules() {
        HeavyFiles x = with("n6:6 s1 s3");
        due("rules()", x.rules(), 63);
        // (3,3) (2,4) (6,0) (0,6) (0,6) (0,0)
        due("asked()", x.asked(), 5);
        lay(x, 0, 4, 2);
        x.note(0, 1);
        // EVEN, WORTH 4 > 3, 2 < 3; LAST, GREAT 4 > 0, 2 < 6; FIRST neither; BACK wins both
        due("rules()", x.rules(), 1 | 2 | 8 | 16);
        due("asked()", x.asked(), 3);
        x.note(0, 1);
        due("rules()", x.rules(), 1 | 2 | 8 | 16);
        x.back(0);
        x.note(0, 3);
        due("BACK alone", x.rules(), 32);
        x.note(0, 0);
        due("BACK lays the same then", x.rules(), 32);
        due("asked()", x.asked(), 1);
        x.stock(1, 0);
        due("with the STOCK as it is now", x.rules(), 0);
        due("asked()", x.asked(), 0);
        finds(x, "rules without suits", courtless(x).rules(), NOUGHT);
    }

    private static void reply() {
        HeavyFiles x = with("n6:6 s1 s3");
        lay(x, 0, 4, 2);
        x.note(0, 3);
        due("reply to BACK", x.reply(2), 6);
        due("asked()", x.asked(), 5);
        rowIs(x, "reply", 2, 0, 3);
        x.back(0);
        due("reply to EVEN", x.reply(2), 6);
        due("asked()", x.asked(), 0);
        rowIs(x, "reply", 2, 0, 4);
    }

    private static void replyEdges() {
        HeavyFiles x = with("n6:6 s1 s3");
        due("reply to EVEN", x.reply(2), 6);
        due("asked()", x.asked(), 0);
        rowIs(x, "reply", 2, 0, 4);
        lay(x, 0, 4, 2);
        x.note(0, 2);
        x.note(0, 1);
        x.rules();
        long digest = x.digest();
        due("none fits", x.reply(2), NONE);
        stays(x, digest, 0);
        due("reply(6)", x.reply(6), BAD);
        finds(x, "reply without suits", courtless(x).reply(2), NOUGHT);
    }

    private static void tell() {
        HeavyFiles x = with("n2:4 s1 s3");
        // EVEN (2,2), WORTH (1,3), FIRST (4,0), LAST, GREAT (0,4), BACK (0,0)
        due("tell(2)", x.tell(2), 4);
        rowIs(x, "tell", 2, 1, 1);
        lay(x, 0, 0, 0);
        x.note(0, 3);
        due("none fits", x.tell(2), 0);
        rowIs(x, "tell", 2, 0, 0);
        x.stock(0, 11);
        due("tell(-1)", x.tell(-1), BAD);
        due("tell(2)", x.tell(2), SPENT);
        due("tell(2) of 5 suits", with("n1:1 s1s1s1s1s1").tell(2), SPENT);
        finds(x, "tell without suits", courtless(x).tell(2), NOUGHT);
        x.stock(0, 11);
        due("tell without suits, too many sheets", x.tell(2), SPENT);
    }

    private static void keep() {
        HeavyFiles x = with("n2:4 s1 s3");
        lay(x, 0, 1, 1);
        due("keep(0)", x.keep(0), 0);
        x.note(0, 1);
        due("keep(2)", x.keep(2), 1);
        due("keep(2)", x.keep(2), 1);
        due("count(5)", x.count(5), 2);
        due("keep(3)", x.keep(3), BAD);
        due("keep(-1)", x.keep(-1), BAD);
        due("keep without suits", courtless(x).keep(0), STATE);
        due("keep without suits", x.keep(3), BAD);
        due("count(5)", x.count(5), 0);
    }

    private static void on() {
        HeavyFiles x = with("n5:4 d13 s3");
        lay(x, 0, 1, 1);
        lay(x, 1, 2, 2);
        x.damp(3);
        x.lender(1, 6);
        x.note(0, 1);
        x.keep(1);
        long kept = x.digest();
        x.stock(0, 9);
        x.stock(1, 9);
        x.damp(0);
        x.lender(1, 0);
        x.back(0);
        lay(x, 0, 0, 3);
        x.note(0, 2);
        x.note(0, 2);
        lay(x, 0, 1, 1);
        due("on(1)", x.on(1), 1);
        due("digest()", x.digest(), kept);
        x.note(0, 3);
        x.damp(9);
        due("on(1) once more", x.on(1), 1);
        due("digest()", x.digest(), kept);
        tells(x, "from(0, 5, 4)", x.from(0, 5, 4), 4);
        due("on(3)", x.on(3), BAD);
        finds(x, "on(0)", x.on(0), NOTHING);
    }

    private static void asked() {
        HeavyFiles x = with("n5:4 s1 s3");
        lay(x, 0, 1, 1);
        lay(x, 1, 0, 4);
        due("judge(0, 1)", x.judge(0, 1), 2);
        due("asked()", x.asked(), 6);
        x.sure(0);
        x.ways(1, 2);
        x.safe(3);
        x.mix(0, 0);
        x.mark(0, 2);
        x.rule(0, 3);
        x.tell(3);
        x.answer(0, 1, 1, 1);
        x.lend(3, 1);
        x.adds(1, 1);
        x.note(0, 1);
        x.keep(0);
        due("asked() stays behind others", x.asked(), 6);
        due("who by nobody tells, too", x.who(2, 2, 0), FINDING);
        x.lay(1, 0, 1);
        x.lay(1, 1, 3);
        due("who", x.who(0, 1, 0), NONE);
        due("asked()", x.asked(), 0);
    }

    private static void upperAndLower() {
        HeavyFiles x = with("n2:1 s3 s3");
        lay(x, 0, 2, 0);
        lay(x, 1, 0, 1);
        due("mixed", x.mixed(0, 0, 1, 2), 1);
        fraction(x, "mixed", 6, 1);
        x.mixed(0, 0, 3, 2);
        x.ways(6, 1);
        x.adds(0, 5);
        fraction(x, "refused ones", 6, 1);
        x.ways(1, 6);
        fraction(x, "ways", 5, 6);
    }

    private static void count() {
        HeavyFiles x = with("n2:1 s3 o4 h11 d52 p63 f9");
        x.row(0, 0);
        x.text(3, 3);
        x.keep(2);
        int[] all = {6, 28, 2, 2, 0, 1, 1, 2};
        for (int what = 0; what < 8; what++) {
            due("count(" + what + ")", x.count(what), all[what]);
        }
        due("count(8)", x.count(8), BAD);
        due("count(-1)", x.count(-1), BAD);
        lay(x, 0, 0, 0, 0, 0, 0, 0);
        x.note(0, 5);
        due("count(4)", x.count(4), 1);
    }

    private static void finding() {
        HeavyFiles x = new HeavyFiles();
        x.at(0, 0);
        x.row(0, -4);
        due("finding()", x.finding(), SIZE);
        x.row(9, -4);
        x.at(0, 0);
        due("finding()", x.finding(), NOTHING);
        x.row(0, 0);
        x.mean(0);
        due("finding()", x.finding(), NOUGHT);
        x.row(0, 3);
        due("finding() stays", x.finding(), NOUGHT);
    }

    private static void findings() {
        HeavyFiles x = new HeavyFiles();
        x.at(0, 0);
        x.at(0, 0);
        x.row(0, -4);
        x.row(0, 1);
        x.at(0, 1);
        x.tear(7);
        int[] all = {BAD, 2, 1, 0, 0, 1, BAD};
        for (int f = 0; f <= 6; f++) {
            due("findings(" + f + ")", x.findings(f), all[f]);
        }
    }

    private static void digest() {
        HeavyFiles x = with("n2:1 d35");
        x.damp(4);
        x.lender(3, 8);
        lay(x, 2, 2);
        x.note(2, 1);
        x.keep(1);
        x.lay(2, 0, -7);
        x.text(1, 1);
        x.put(1, 0, -3);
        x.suit(0, 1);
        int[] due = {
            1, 3, 0, 1, 1, 1, 1, 2, 2, 1, 4, 0, 0, 0, 8, 3, 3, 5, 2, 1, -1, 1, -1, -1, -1, 1, -7, -1, -1, -1,
            8, 'n', '2', ':', '1', ' ', 'd', '3', '5', 1, -3, -1, -1
        };
        long h = 17;
        for (int v : due) {
            h = 31 * h + v;
        }
        due("digest()", x.digest(), h);
        due("asked() stays", x.asked(), 3);
        due("finding() stays", x.finding(), 0);
    }

    private static void constants() {
        due("BAD", HeavyFiles.BAD, BAD);
        due("FULL", HeavyFiles.FULL, FULL);
        due("FINDING", HeavyFiles.FINDING, FINDING);
        due("STATE", HeavyFiles.STATE, STATE);
        due("SPENT", HeavyFiles.SPENT, SPENT);
        due("NONE", HeavyFiles.NONE, NONE);
    }

    private static void run(String name, Runnable test) {
        promise = name;
        test.run();
    }

    private static void runAll(String[] names, Runnable... tests) {
        for (int i = 0; i < tests.length; i++) {
            run(names[i], tests[i]);
        }
    }

    public static void main(String[] args) {
        runAll(new String[] {"the constants", "promise 1", "promise 2", "promise 3", "promise 4", "promise 5", "promise 6",
            "promise 7", "promise 8", "promise 9", "promise 10", "promise 11", "promise 12", "promise 13", "promise 14",
            "promise 15"},
            PromiseTest::constants, PromiseTest::newObject, PromiseTest::row, PromiseTest::lay, PromiseTest::at,
            PromiseTest::tear, PromiseTest::copy, PromiseTest::mean, PromiseTest::text, PromiseTest::put,
            PromiseTest::fault, PromiseTest::court, PromiseTest::suit, PromiseTest::mark, PromiseTest::stock,
            PromiseTest::damp);
        runAll(new String[] {"promise 16", "promise 17", "promise 18", "promise 19", "promise 20", "promise 21",
            "promise 22", "promise 23", "promise 24", "promise 25", "promise 26", "promise 27", "promise 28",
            "promise 29", "promise 30", "promise 31"},
            PromiseTest::judge, PromiseTest::who, PromiseTest::best, PromiseTest::fewest, PromiseTest::ways,
            PromiseTest::sure, PromiseTest::safe, PromiseTest::mixed, PromiseTest::mix, PromiseTest::turns,
            PromiseTest::from, PromiseTest::answer, PromiseTest::lender, PromiseTest::lend, PromiseTest::leaves,
            PromiseTest::adds);
        runAll(new String[] {"promise 32", "promise 33", "promise 34", "promise 35", "promise 36", "promise 37",
            "promise 37", "promise 38", "promise 39", "promise 40", "promise 41", "promises 42, 43", "promise 44",
            "promise 45", "promise 46", "promise 47"},
            PromiseTest::when, PromiseTest::rule, PromiseTest::note, PromiseTest::back, PromiseTest::rules,
            PromiseTest::reply, PromiseTest::replyEdges, PromiseTest::tell, PromiseTest::keep, PromiseTest::on,
            PromiseTest::asked, PromiseTest::upperAndLower, PromiseTest::count, PromiseTest::finding,
            PromiseTest::findings, PromiseTest::digest);
        System.out.println(checks + " answers, " + wrong + " not as due");
        if (wrong != 0) {
            System.exit(1);
        }
    }
}
