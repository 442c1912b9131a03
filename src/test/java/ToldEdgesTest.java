import java.util.ArrayList;
import java.util.List;
import java.util.function.IntSupplier;

/** The edges of promises 41 to 47 and of the answers at large, a sentence each. */
public final class ToldEdgesTest extends Edges {
    private ToldEdgesTest() {
    }

    private static void constants() {
        says("The public face: the constants", x -> {
            due(HeavyFiles.BAD, BAD);
            due(HeavyFiles.FULL, FULL);
            due(HeavyFiles.FINDING, FINDING);
            due(HeavyFiles.STATE, STATE);
            due(HeavyFiles.SPENT, SPENT);
            due(HeavyFiles.NONE, NONE);
        });
    }

    /** ROW 0 and ROW 1 are LAYINGS; 77 was told last. */
    private static HeavyFiles told() {
        HeavyFiles x = with("n4:3 s1 o2");
        lay(x, 0, 3, 1);
        lay(x, 1, 1, 2);
        lay(x, 2, 77);
        x.row(3, 4);
        x.at(2, 0);
        return x;
    }

    private interface OneCall {
        int by(HeavyFiles x);
    }

    private static void tellsBy(String call, int told, OneCall what) {
        says("41: what the latest " + call + " told", z -> {
            HeavyFiles x = told();
            takes(what.by(x));
            due(x.asked(), told);
        });
    }

    private static void tellsNothing(String call, OneCall what) {
        says("41: " + call + " tells nothing by asked()", z -> {
            HeavyFiles x = told();
            takes(what.by(x));
            due(x.asked(), 77);
        });
    }

    private static void asked() {
        says("41: 0 before", x -> {
            due(x.asked(), 0);
            x.at(0, 0);
            x.row(0, 3);
            due(x.asked(), 0);
        });
        tellsBy("lay()", 3, x -> x.lay(0, 0, 9));
        tellsBy("at()", 1, x -> x.at(0, 1));
        tellsBy("mean()", 2, x -> x.mean(0));
        tellsBy("suit()", 2, x -> x.suit(1, 1));
        tellsBy("judge()", 4, x -> x.judge(0, 1));
        tellsBy("who()", 2, x -> x.who(0, 1, 0));
        tellsBy("best()", 4, x -> x.best(1, 4));
        tellsBy("fewest()", 4, x -> x.fewest(1, 3));
        tellsBy("turns()", 2, HeavyFiles::turns);
        tellsBy("from()", 4, x -> x.from(1, 3, 3));
        tellsBy("when()", 6, x -> x.when(1));
        tellsBy("rules()", 5, HeavyFiles::rules);
        tellsBy("reply()", 0, x -> x.reply(4));
        askedStays();
    }

    private static void askedStays() {
        tellsNothing("row()", x -> x.row(5, 3));
        tellsNothing("tear()", x -> x.tear(0));
        tellsNothing("copy()", x -> x.copy(0, 0, 1, 0, 1));
        tellsNothing("text()", x -> x.text(1, 3));
        tellsNothing("put()", x -> x.put(0, 0, 3));
        tellsNothing("fault()", x -> x.fault(0));
        tellsNothing("court()", x -> x.court(0));
        tellsNothing("mark()", x -> x.mark(1, 1));
        tellsNothing("stock()", x -> x.stock(0, 9));
        tellsNothing("damp()", x -> x.damp(9));
        tellsNothing("ways()", x -> x.ways(1, 3));
        tellsNothing("sure()", x -> x.sure(0));
        tellsNothing("safe()", x -> x.safe(4));
        tellsNothing("mixed()", x -> x.mixed(0, 0, 1, 2));
        tellsNothing("mix()", x -> x.mix(0, 0));
        tellsNothing("answer()", x -> x.answer(0, 3, 3, 2));
        tellsNothing("lender()", x -> x.lender(0, 9));
        tellsNothing("lend()", x -> x.lend(1, 1));
        tellsNothing("leaves()", x -> x.leaves(1, 3));
        tellsNothing("adds()", x -> x.adds(0, 1));
        tellsNothing("rule()", x -> x.rule(0, 4));
        tellsNothing("note()", x -> x.note(0, 1));
        tellsNothing("back()", x -> x.back(0));
        tellsNothing("tell()", x -> x.tell(4));
        tellsNothing("keep()", x -> x.keep(0));
        tellsNothing("on()", x -> x.keep(1) + x.on(1));
        tellsNothing("count()", x -> x.count(1));
        tellsNothing("finding(), findings()", x -> x.finding() + x.findings(1));
        tellsNothing("upper(), lower(), digest()", x -> (int) (x.upper() + x.lower() + x.digest() % 2));
    }

    private static void fractions() {
        says("42, 43: 0, 1 before", x -> fraction(x, 0, 1));
        says("42, 43: the fraction that was told last: by ways()", z -> {
            HeavyFiles x = told();
            x.ways(1, 3);
            // 6 of 15 LAYINGS have 2 or more on the o
            fraction(x, 2, 5);
            x.judge(0, 1);
            x.best(1, 4);
            x.rules();
            x.mean(0);
            fraction(x, 2, 5);
        });
        says("42, 43: by mixed(), mix(), adds(), each in its turn", z -> {
            HeavyFiles x = with("n2:1 s3 s3");
            lay(x, 0, 2, 0);
            lay(x, 1, 0, 1);
            x.mixed(0, 0, 1, 2);
            fraction(x, 6, 1);
            x.mix(0, 1);
            fraction(x, 6, 1);
            x.stock(0, 0);
            x.lender(0, 1);
            x.lender(1, 1);
            x.adds(0, 1);
            // one SHEET makes 3 more; the other one makes 3 more, too: (1, 1)
            fraction(x, 3, 1);
            x.ways(1, 9);
            fraction(x, 0, 1);
        });
        says("ANSWERS: in lowest terms, the lower number above 0", z -> {
            HeavyFiles x = with("n2:1 s1 s1");
            lay(x, 0, 0, 0);
            // (0,0) 2 (0,1) 3 (0,2) 3 (1,0) 3 (1,1) 4 (2,0) 3
            long[][] due = {{1, 1}, {1, 1}, {1, 1}, {5, 6}, {1, 6}, {0, 1}};
            for (int v = 0; v < 6; v++) {
                x.ways(0, v);
                fraction(x, due[v][0], due[v][1]);
            }
        });
        says("42, 43: refused, they stay", z -> {
            HeavyFiles x = with("n2:1 s1 s1");
            lay(x, 0, 0, 0);
            x.ways(0, 3);
            x.ways(5, 1);
            x.ways(0, 109);
            x.mixed(0, 0, 1, 0);
            x.mix(0, 5);
            x.adds(4, 0);
            x.adds(0, 5);
            x.stock(0, 13);
            x.ways(0, 0);
            fraction(x, 5, 6);
        });
    }

    private static void count() {
        says("44: SUITS, WORTHS, OWN ones, DAMP ones", x -> {
            court(x, "n2:1 s9 o8 h71 d61 p51 f4");
            int[] all = {6, 39, 2, 2};
            for (int what = 0; what < 4; what++) {
                due(x.count(what), all[what]);
            }
        });
        says("44: WORTHS of six SUITS of 9", z -> due(with("n0:0s9s9s9s9s9s9").count(1), 54));
        says("44: NOTES, kept COURTS", z -> {
            HeavyFiles x = told();
            x.note(0, 1);
            x.note(0, 1);
            x.keep(0);
            x.keep(2);
            due(x.count(4), 2);
            due(x.count(5), 2);
        });
        says("44: ROWS, TEXTS that are there, of no places, too", x -> {
            x.row(0, 0);
            x.row(5, 40);
            x.row(3, 1);
            x.tear(3);
            x.text(3, 0);
            due(x.count(6), 2);
            due(x.count(7), 1);
        });
        says("44: all that there can be", x -> {
            court(x, SIX);
            for (int r = 0; r < 6; r++) {
                x.row(r, 6);
            }
            for (int t = 0; t < 4; t++) {
                x.text(t, t);
            }
            for (int k = 0; k < 8; k++) {
                x.note(0, 0);
            }
            for (int k = 0; k < 3; k++) {
                x.keep(k);
            }
            int[] all = {6, 29, 2, 2, 8, 3, 6, 4};
            for (int what = 0; what < 8; what++) {
                due(x.count(what), all[what]);
            }
        });
        says("44: BAD", z -> {
            HeavyFiles x = told();
            refuses(x, BAD, () -> x.count(-1), () -> x.count(8), () -> x.count(LOW), () -> x.count(HIGH));
        });
    }

    private static void findings() {
        says("45: 0 before any; BAD, STATE, SPENT, FULL, NONE are none", x -> {
            x.row(6, 1);
            x.keep(0);
            x.stock(0, 16);
            x.turns();
            x.text(0, 0);
            x.court(0);
            due(x.finding(), 0);
            for (int f = 1; f <= 5; f++) {
                due(x.findings(f), 0);
            }
        });
        says("45: the latest FINDING", x -> {
            x.at(0, 0);
            due(x.finding(), NOTHING);
            x.row(0, -1);
            due(x.finding(), SIZE);
            x.row(0, 0);
            x.mean(0);
            due(x.finding(), NOUGHT);
            x.at(0, 0);
            due(x.finding(), BEYOND);
            court(x, "n1:1 s1");
            x.mark(0, 1);
            due(x.finding(), UNLIKE);
            x.row(1, 4);
            x.row(9, 4);
            due(x.finding(), UNLIKE);
        });
        says("46: how often a FINDING was answered", x -> {
            for (int n = 0; n < 5; n++) {
                x.at(0, n);
            }
            x.row(0, -1);
            x.text(0, -1);
            x.row(0, 0);
            x.mean(0);
            x.lay(0, 0, 1);
            x.lay(0, 1, 1);
            x.lay(0, 2, 1);
            int[] all = {5, 3, 0, 1, 2};
            for (int f = 1; f <= 5; f++) {
                due(x.findings(f), all[f - 1]);
            }
        });
        says("46: 400 times", x -> {
            for (int n = 0; n < 400; n++) {
                x.at(0, 0);
            }
            due(x.findings(1), 400);
            due(x.findings(2), 0);
        });
        says("46: BAD", x -> {
            x.at(0, 0);
            refuses(x, BAD, () -> x.findings(0), () -> x.findings(6), () -> x.findings(-1), () -> x.findings(LOW),
                () -> x.findings(HIGH));
        });
        says("45, 46: a new COURT, a kept one leave them", z -> {
            HeavyFiles x = told();
            x.at(5, 0);
            x.keep(0);
            x.on(0);
            x.court(0);
            due(x.finding(), NOTHING);
            due(x.findings(1), 1);
        });
    }

    private static long hash(List<Integer> all) {
        long h = 17;
        for (int v : all) {
            h = 31 * h + v;
        }
        return h;
    }

    private static void add(List<Integer> all, int... more) {
        for (int v : more) {
            all.add(v);
        }
    }

    private static void digest() {
        says("47: of a new object", x -> {
            List<Integer> all = new ArrayList<>();
            add(all, 0, 0, 0, 0, 0, 0, 0, 0, 0, 0, 0, 0, 0, 0, 0);
            add(all, -1, -1, -1, -1, -1, -1, -1, -1, -1, -1, -1, -1, -1);
            due(x.digest(), hash(all));
        });
        says("47: of all that there is, in its order", x -> {
            write(x, 1, "n7:5 s4 d35 h20");
            x.court(1);
            x.damp(6);
            for (int l = 0; l < 4; l++) {
                x.lender(l, 11 + l);
            }
            x.keep(0);
            lay(x, 2, 1, 2, 3);
            x.note(2, 5);
            lay(x, 2, 0, 4, 0);
            x.note(2, 2);
            x.keep(2);
            lay(x, 2, LOW, HIGH);
            x.row(4, 0);
            x.text(3, 2);
            x.put(3, 1, -128);
            List<Integer> all = new ArrayList<>();
            add(all, 3, 9, 1, 1, 2, 2, 2, 2);
            add(all, 7, 5, 6, 11, 12, 13, 14);
            add(all, 0, 4, NONE, 3, 3, 5, 5, 2, 0);
            add(all, 1, 2, 3, 5, 0, 4, 0, 2);
            add(all, 0, -1, 2);
            add(all, -1, -1, 2, LOW, HIGH, -1, 0, -1);
            add(all, -1, 15, 'n', '7', ':', '5', ' ', 's', '4', ' ', 'd', '3', '5', ' ', 'h', '2', '0');
            add(all, -1, 2, 32, -128);
            due(x.digest(), hash(all));
        });
        says("47: asked() stays, all else, too", z -> {
            HeavyFiles x = told();
            x.ways(1, 3);
            x.at(5, 0);
            unchanged(x, 0, () -> (int) (x.digest() - x.digest()));
            due(x.asked(), 77);
        });
        says("47: alike by alike ways, whatever came between", z -> {
            HeavyFiles x = told();
            HeavyFiles y = told();
            due(x.digest(), y.digest());
            y.damp(3);
            y.damp(0);
            y.note(0, 1);
            y.back(0);
            y.row(5, 5);
            y.tear(5);
            y.lender(1, 5);
            y.lender(1, 0);
            due(x.digest(), y.digest());
        });
    }

    /** Numbers that no call may stumble over, in each place of each call. */
    private static void farNumbers() {
        int[] far = {LOW, LOW + 1, -1, 0, 1, 5, 6, 39, 40, 41, 80, 1 << 16, 1 << 30, HIGH - 1, HIGH};
        says("no call throws, whatever it is given", z -> {
            for (int a : far) {
                for (int b : far) {
                    HeavyFiles x = told();
                    x.note(0, 1);
                    x.keep(0);
                    for (IntSupplier call : callsWith(x, a, b)) {
                        int got = call.getAsInt();
                        due(got == BAD || got == FINDING || got == STATE || got == FULL || got == SPENT || got == NONE
                            || got >= 0 ? 1 : got, 1);
                    }
                }
            }
        });
        says("no call throws on a new object, either", z -> {
            for (int a : far) {
                for (int b : far) {
                    HeavyFiles x = new HeavyFiles();
                    for (IntSupplier call : callsWith(x, a, b)) {
                        int got = call.getAsInt();
                        due(got >= NONE ? 1 : got, 1);
                    }
                }
            }
        });
    }

    private static IntSupplier[] callsWith(HeavyFiles x, int a, int b) {
        return new IntSupplier[] {
            () -> x.at(a, b), () -> x.lay(a, b, a), () -> x.mean(a), () -> x.copy(0, a, 1, b, 1),
            () -> x.copy(0, 0, 1, a, b), () -> x.copy(a, 0, b, 0, 1), () -> x.copy(0, a, 0, 0, b),
            () -> x.copy(0, a, 0, a, b), () -> x.put(a, b, a), () -> x.put(0, a, b), () -> x.fault(a), () -> x.suit(a, b), () -> x.mark(a, b), () -> x.judge(a, b),
            () -> x.who(0, 1, a), () -> x.who(a, b, 0), () -> x.best(a, b), () -> x.fewest(a, b), () -> x.ways(a, b),
            () -> x.sure(a), () -> x.safe(a), () -> x.mixed(0, 1, a, b), () -> x.mixed(a, b, 1, 2), () -> x.mix(a, b),
            x::turns, () -> x.from(0, a, b), () -> x.from(a, 3, b), () -> x.answer(a, 3, 3, b),
            () -> x.answer(0, a, b, a), () -> x.answer(1, a, 3, b), () -> x.lend(a, b), () -> x.leaves(a, b),
            () -> x.adds(a, b), () -> x.when(a), () -> x.rule(a, b), () -> x.note(a, b), x::rules, () -> x.reply(a), () -> x.tell(a), () -> x.keep(a),
            () -> x.on(a), () -> x.count(a), () -> x.findings(a), () -> x.back(a), () -> x.row(a, b), () -> x.tear(a),
            () -> x.text(a, b), () -> x.court(a), () -> x.stock(a, b), () -> x.damp(a), () -> x.lender(a, b)
        };
    }

    public static void main(String[] args) {
        constants();
        asked();
        fractions();
        count();
        findings();
        digest();
        farNumbers();
        end();
    }
}
