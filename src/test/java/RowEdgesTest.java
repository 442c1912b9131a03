/** The edges of promises 1 to 9, a sentence each: a new object, rows, texts. */
public final class RowEdgesTest extends Edges {
    private RowEdgesTest() {
    }

    private static void newObject() {
        says("1: no ROWS", x -> {
            due(x.count(6), 0);
            finds(x, NOTHING, () -> x.at(0, 0), () -> x.at(5, 0), () -> x.tear(3), () -> x.lay(1, 0, 0));
        });
        says("1: no TEXTS", x -> {
            due(x.count(7), 0);
            finds(x, NOTHING, () -> x.put(0, 0, 1), () -> x.fault(3), () -> x.court(1), () -> x.fault(2));
        });
        says("1: no SUITS", x -> {
            due(x.count(0), 0);
            due(x.count(1), 0);
            due(x.count(2), 0);
            due(x.count(3), 0);
            refuses(x, BAD, () -> x.suit(0, 0), () -> x.mark(0, 1));
        });
        says("1: no NOTES", x -> {
            due(x.count(4), 0);
            due(x.back(0), 0);
            refuses(x, BAD, () -> x.back(1));
        });
        says("1: STOCKS 0", x -> {
            due(x.stock(0, 3), 0);
            due(x.stock(1, 4), 0);
        });
        says("Terms 1: the DAMP is 0 at first", x -> due(x.damp(9), 0));
        says("Terms 3: LENDERS have 0 SHEETS at first", x -> {
            for (int l = 0; l < 4; l++) {
                due(x.lender(l, 20), 0);
            }
        });
        says("no COURT is kept at first", x -> {
            due(x.count(5), 0);
            finds(x, NOTHING, () -> x.on(0), () -> x.on(1), () -> x.on(2));
        });
        says("41, 42, 43, 45: nothing was told before", x -> {
            due(x.asked(), 0);
            fraction(x, 0, 1);
            due(x.finding(), 0);
            for (int f = 1; f <= 5; f++) {
                due(x.findings(f), 0);
            }
        });
        says("1: a new object has nothing of another one", x -> {
            court(x, SIX);
            x.damp(3);
            x.lender(1, 4);
            lay(x, 0, 0, 0, 0, 0, 0, 0);
            x.note(0, 1);
            x.keep(0);
            x.at(7, 7);
            x.at(5, 5);
            HeavyFiles y = new HeavyFiles();
            long h = 17;
            for (int i = 0; i < 15; i++) {
                h = 31 * h;
            }
            for (int i = 0; i < 13; i++) {
                h = 31 * h - 1;
            }
            due(y.digest(), h);
            due(y.finding(), 0);
        });
    }

    private static void row() {
        says("2: a ROW is there with n ints 0: n", x -> {
            due(x.row(0, 3), 3);
            due(x.count(6), 1);
            holds(x, 0, 0, 0, 0);
        });
        says("2: anew: 0 in all places, those too that it had before", x -> {
            x.row(5, 40);
            for (int i = 0; i < 40; i++) {
                x.lay(5, i, i - 50);
            }
            due(x.row(5, 2), 2);
            holds(x, 5, 0, 0);
            due(x.row(5, 40), 40);
            holds(x, 5, new int[40]);
            due(x.count(6), 1);
        });
        says("Terms 1: a ROW of 0 ints is there, not missing", x -> {
            due(x.row(2, 0), 0);
            due(x.count(6), 1);
            finds(x, BEYOND, () -> x.at(2, 0));
        });
        says("Terms 1: a ROW of 40 ints", x -> {
            due(x.row(2, 40), 40);
            tells(x, x.lay(2, 39, 7), 0);
            tells(x, x.at(2, 39), 7);
            finds(x, BEYOND, () -> x.at(2, 40));
        });
        says("Terms 1: ROWS 0 .. 5, each by itself", x -> {
            for (int r = 0; r < 6; r++) {
                due(x.row(r, r + 1), r + 1);
                x.lay(r, r, r + 10);
            }
            due(x.count(6), 6);
            for (int r = 0; r < 6; r++) {
                tells(x, x.at(r, r), r + 10);
                due(x.at(r, r + 1), FINDING);
            }
        });
        says("2: BAD: a ROW that there can't be", x ->
            refuses(x, BAD, () -> x.row(-1, 1), () -> x.row(6, 1), () -> x.row(LOW, 1), () -> x.row(HIGH, 1)));
        says("2: BAD: also n above 40", x -> {
            lay(x, 2, 8, 9);
            refuses(x, BAD, () -> x.row(2, 41), () -> x.row(2, HIGH), () -> x.row(3, 41));
            holds(x, 2, 8, 9);
        });
        says("2: SIZE: below 0", x -> {
            lay(x, 2, 8, 9);
            finds(x, SIZE, () -> x.row(2, -1), () -> x.row(2, LOW), () -> x.row(3, -1));
            holds(x, 2, 8, 9);
            due(x.count(6), 1);
        });
        says("2: BAD ahead of SIZE", x -> refuses(x, BAD, () -> x.row(6, -1), () -> x.row(-1, LOW)));
        says("41: row() tells nothing by asked()", x -> {
            lay(x, 0, 5);
            x.at(0, 0);
            x.row(1, 3);
            due(x.asked(), 5);
        });
    }

    private static void lay() {
        says("3: place i is v: what it was, told by asked()", x -> {
            x.row(2, 3);
            tells(x, x.lay(2, 0, 8), 0);
            tells(x, x.lay(2, 2, -4), 0);
            tells(x, x.lay(2, 0, 9), 8);
            holds(x, 2, 9, 0, -4);
        });
        says("3: the least and the greatest int", x -> {
            x.row(0, 2);
            tells(x, x.lay(0, 0, LOW), 0);
            tells(x, x.lay(0, 1, HIGH), 0);
            tells(x, x.lay(0, 0, HIGH), LOW);
            tells(x, x.lay(0, 1, LOW), HIGH);
            holds(x, 0, HIGH, LOW);
        });
        says("3: BAD", x -> {
            lay(x, 0, 1);
            refuses(x, BAD, () -> x.lay(-1, 0, 1), () -> x.lay(6, 0, 1), () -> x.lay(LOW, 0, 1),
                () -> x.lay(HIGH, 0, 1));
        });
        says("3: BAD ahead of BEYOND", x -> refuses(x, BAD, () -> x.lay(-1, -1, 1), () -> x.lay(6, 99, 1)));
        says("3: NOTHING: the ROW is missing", x -> {
            x.row(1, 2);
            x.tear(1);
            finds(x, NOTHING, () -> x.lay(0, 0, 1), () -> x.lay(1, 0, 1));
        });
        says("3: NOTHING ahead of BEYOND", x -> finds(x, NOTHING, () -> x.lay(0, -1, 1), () -> x.lay(0, 40, 1)));
        says("3: BEYOND: behind the last place", x -> {
            lay(x, 0, 1, 2, 3);
            finds(x, BEYOND, () -> x.lay(0, 3, 1), () -> x.lay(0, 39, 1), () -> x.lay(0, 40, 1),
                () -> x.lay(0, HIGH, 1));
            tells(x, x.lay(0, 2, 4), 3);
        });
        says("3: BEYOND: ahead of the first place", x -> {
            lay(x, 0, 1, 2, 3);
            finds(x, BEYOND, () -> x.lay(0, -1, 1), () -> x.lay(0, LOW, 1));
            tells(x, x.lay(0, 0, 4), 1);
        });
        says("3: BEYOND: a ROW of no places", x -> {
            x.row(4, 0);
            finds(x, BEYOND, () -> x.lay(4, 0, 1));
        });
    }

    private static void at() {
        says("4: place i, told by asked()", x -> {
            lay(x, 3, 4, 0, LOW, HIGH, -1);
            int[] all = {4, 0, LOW, HIGH, -1};
            for (int i = 0; i < 5; i++) {
                tells(x, x.at(3, i), all[i]);
            }
        });
        says("4: BAD", x -> {
            lay(x, 0, 1);
            refuses(x, BAD, () -> x.at(-1, 0), () -> x.at(6, 0), () -> x.at(LOW, 0), () -> x.at(HIGH, 0));
        });
        says("4: BAD ahead of BEYOND", x -> refuses(x, BAD, () -> x.at(-1, -1), () -> x.at(6, 99)));
        says("4: NOTHING: the ROW is missing", x -> {
            x.row(1, 2);
            x.tear(1);
            finds(x, NOTHING, () -> x.at(0, 0), () -> x.at(1, 0));
        });
        says("4: NOTHING ahead of BEYOND", x -> finds(x, NOTHING, () -> x.at(0, -1), () -> x.at(0, 40)));
        says("4: BEYOND: behind the last place", x -> {
            lay(x, 0, 1, 2, 3);
            finds(x, BEYOND, () -> x.at(0, 3), () -> x.at(0, 39), () -> x.at(0, 40), () -> x.at(0, HIGH));
            tells(x, x.at(0, 2), 3);
        });
        says("4: BEYOND: ahead of the first place", x -> {
            lay(x, 0, 1, 2, 3);
            finds(x, BEYOND, () -> x.at(0, -1), () -> x.at(0, LOW));
            tells(x, x.at(0, 0), 1);
        });
        says("4: BEYOND: places that it had when it was longer", x -> {
            lay(x, 0, 1, 2, 3);
            x.row(0, 1);
            finds(x, BEYOND, () -> x.at(0, 1), () -> x.at(0, 2));
        });
    }

    private static void tear() {
        says("5: a ROW is missing: 1", x -> {
            lay(x, 4, 7);
            lay(x, 3, 8);
            due(x.tear(4), 1);
            due(x.count(6), 1);
            finds(x, NOTHING, () -> x.at(4, 0));
            holds(x, 3, 8);
        });
        says("5: a ROW of no ints, too", x -> {
            x.row(0, 0);
            due(x.tear(0), 1);
            due(x.count(6), 0);
        });
        says("5: BAD", x -> refuses(x, BAD, () -> x.tear(-1), () -> x.tear(6), () -> x.tear(LOW), () -> x.tear(HIGH)));
        says("5: NOTHING: it is missing", x -> {
            finds(x, NOTHING, () -> x.tear(0));
            x.row(5, 40);
            due(x.tear(5), 1);
            finds(x, NOTHING, () -> x.tear(5));
        });
        says("2: behind tear() a ROW is there with ints 0 again", x -> {
            lay(x, 1, 5, 6);
            x.tear(1);
            due(x.row(1, 2), 2);
            holds(x, 1, 0, 0);
        });
    }

    private static HeavyFiles five() {
        HeavyFiles x = new HeavyFiles();
        lay(x, 0, 1, 2, 3, 4, 5);
        lay(x, 1, 6, 7);
        return x;
    }

    private static void copy() {
        says("6: n places come to those of another one, from one on", z -> {
            HeavyFiles x = five();
            due(x.copy(0, 3, 1, 0, 2), 1);
            holds(x, 1, 4, 5);
            due(x.copy(1, 1, 0, 2, 1), 1);
            holds(x, 0, 1, 2, 5, 4, 5);
            holds(x, 1, 4, 5);
        });
        says("6: as if taken ahead: to places behind", z -> {
            HeavyFiles x = five();
            due(x.copy(0, 0, 0, 1, 4), 1);
            holds(x, 0, 1, 1, 2, 3, 4);
        });
        says("6: as if taken ahead: to places ahead", z -> {
            HeavyFiles x = five();
            due(x.copy(0, 1, 0, 0, 4), 1);
            holds(x, 0, 2, 3, 4, 5, 5);
        });
        says("6: perhaps itself: all to the same places", z -> {
            HeavyFiles x = five();
            due(x.copy(0, 0, 0, 0, 5), 1);
            holds(x, 0, 1, 2, 3, 4, 5);
        });
        says("6: 40 places", x -> {
            x.row(2, 40);
            x.row(3, 40);
            x.lay(2, 0, 8);
            x.lay(2, 39, 9);
            due(x.copy(2, 0, 3, 0, 40), 1);
            tells(x, x.at(3, 0), 8);
            tells(x, x.at(3, 39), 9);
        });
        says("6: no places: nothing changes", z -> {
            HeavyFiles x = five();
            unchanged(x, 1, () -> x.copy(0, 0, 1, 0, 0), () -> x.copy(0, 5, 1, 2, 0), () -> x.copy(0, 0, 1, 2, 0));
            x.row(4, 0);
            unchanged(x, 1, () -> x.copy(4, 0, 4, 0, 0), () -> x.copy(0, 5, 4, 0, 0));
        });
        says("41: copy() tells nothing by asked()", z -> {
            HeavyFiles x = five();
            x.at(0, 4);
            x.copy(0, 0, 1, 0, 2);
            due(x.asked(), 5);
        });
    }

    private static void copyRefused() {
        says("6: BAD: either", z -> {
            HeavyFiles x = five();
            refuses(x, BAD, () -> x.copy(-1, 0, 1, 0, 1), () -> x.copy(6, 0, 1, 0, 1), () -> x.copy(0, 0, -1, 0, 1),
                () -> x.copy(0, 0, 6, 0, 1), () -> x.copy(LOW, 0, 1, 0, 1), () -> x.copy(0, 0, HIGH, 0, 1));
        });
        says("6: BAD ahead of SIZE", z -> {
            HeavyFiles x = five();
            refuses(x, BAD, () -> x.copy(6, 0, 1, 0, -1), () -> x.copy(0, 0, -1, 0, -1));
        });
        says("6: SIZE: n below 0", z -> {
            HeavyFiles x = five();
            finds(x, SIZE, () -> x.copy(0, 0, 1, 0, -1), () -> x.copy(0, 3, 1, 1, -1), () -> x.copy(0, 0, 1, 0, LOW));
        });
        says("6: SIZE ahead of NOTHING", z -> {
            HeavyFiles x = five();
            finds(x, SIZE, () -> x.copy(5, 0, 1, 0, -1), () -> x.copy(0, 0, 5, 0, -1), () -> x.copy(4, 9, 5, 9, LOW));
        });
        says("6: NOTHING: either", z -> {
            HeavyFiles x = five();
            finds(x, NOTHING, () -> x.copy(5, 0, 1, 0, 1), () -> x.copy(0, 0, 5, 0, 1), () -> x.copy(5, 0, 5, 0, 0));
        });
        says("6: NOTHING ahead of BEYOND", z -> {
            HeavyFiles x = five();
            finds(x, NOTHING, () -> x.copy(5, -1, 1, 0, 1), () -> x.copy(0, 9, 5, 0, 1), () -> x.copy(0, 0, 5, -1, 9));
        });
    }

    private static void copyBeyond() {
        says("6: BEYOND: not so many there to take", z -> {
            HeavyFiles x = five();
            x.row(2, 40);
            finds(x, BEYOND, () -> x.copy(0, 0, 2, 0, 6), () -> x.copy(0, 4, 2, 0, 2), () -> x.copy(0, 5, 2, 0, 1));
            due(x.copy(0, 0, 2, 0, 5), 1);
            due(x.copy(0, 4, 2, 0, 1), 1);
        });
        says("6: BEYOND: not so many there to come to", z -> {
            HeavyFiles x = five();
            finds(x, BEYOND, () -> x.copy(0, 0, 1, 0, 3), () -> x.copy(0, 0, 1, 1, 2), () -> x.copy(0, 0, 1, 2, 1));
            holds(x, 1, 6, 7);
        });
        says("6: BEYOND: a place below 0", z -> {
            HeavyFiles x = five();
            finds(x, BEYOND, () -> x.copy(0, -1, 1, 0, 1), () -> x.copy(0, 0, 1, -1, 1), () -> x.copy(0, LOW, 1, 0, 1),
                () -> x.copy(0, 0, 1, LOW, 1));
        });
        says("6: BEYOND with n 0, too, if i is below 0", z -> {
            HeavyFiles x = five();
            finds(x, BEYOND, () -> x.copy(0, -1, 1, 0, 0), () -> x.copy(0, LOW, 1, 0, 0));
        });
        says("6: BEYOND with n 0, too, if j is below 0", z -> {
            HeavyFiles x = five();
            finds(x, BEYOND, () -> x.copy(0, 0, 1, -1, 0), () -> x.copy(0, 0, 1, LOW, 0));
        });
        says("6: BEYOND with n 0, too, if i is above the size", z -> {
            HeavyFiles x = five();
            finds(x, BEYOND, () -> x.copy(0, 6, 1, 0, 0), () -> x.copy(0, HIGH, 1, 0, 0), () -> x.copy(0, 40, 1, 0, 0));
        });
        says("6: BEYOND with n 0, too, if j is above the size", z -> {
            HeavyFiles x = five();
            finds(x, BEYOND, () -> x.copy(0, 0, 1, 3, 0), () -> x.copy(0, 0, 1, HIGH, 0), () -> x.copy(0, 0, 1, 40, 0));
        });
        says("6: BEYOND: places that wrap around", z -> {
            HeavyFiles x = five();
            finds(x, BEYOND, () -> x.copy(0, 1, 1, 0, HIGH), () -> x.copy(0, HIGH, 1, 0, HIGH),
                () -> x.copy(0, HIGH, 1, 0, 2), () -> x.copy(0, 0, 1, HIGH, 1), () -> x.copy(0, 0, 1, 1, HIGH));
        });
        says("6: refused, nothing of it comes over", z -> {
            HeavyFiles x = five();
            finds(x, BEYOND, () -> x.copy(0, 3, 1, 0, 3));
            holds(x, 0, 1, 2, 3, 4, 5);
            holds(x, 1, 6, 7);
        });
    }

    private static void mean() {
        says("7: the mean, told by asked()", x -> {
            lay(x, 0, 3, 4, 8);
            tells(x, x.mean(0), 5);
        });
        says("7: cut", x -> {
            lay(x, 0, 3, 4);
            tells(x, x.mean(0), 3);
            lay(x, 1, 1, 1, 1, 1, 0);
            tells(x, x.mean(1), 0);
        });
        says("7: cut below 0, too", x -> {
            lay(x, 0, -3, -4);
            tells(x, x.mean(0), -3);
            lay(x, 1, -1, 0);
            tells(x, x.mean(1), 0);
        });
        says("7: a single int", x -> {
            lay(x, 0, LOW);
            tells(x, x.mean(0), LOW);
            lay(x, 0, HIGH);
            tells(x, x.mean(0), HIGH);
        });
        says("7: 40 ints, whose sum is no int", x -> {
            for (int r = 0; r < 2; r++) {
                x.row(r, 40);
                for (int i = 0; i < 40; i++) {
                    x.lay(r, i, r == 0 ? HIGH : LOW);
                }
            }
            tells(x, x.mean(0), HIGH);
            tells(x, x.mean(1), LOW);
        });
        says("7: ints of either sign, whose sum is none", x -> {
            lay(x, 0, LOW, LOW, HIGH);
            tells(x, x.mean(0), (int) ((2L * LOW + HIGH) / 3));
        });
        says("7: BAD", x -> refuses(x, BAD, () -> x.mean(-1), () -> x.mean(6), () -> x.mean(LOW), () -> x.mean(HIGH)));
        says("7: NOTHING: the ROW is missing", x -> {
            lay(x, 0, 3);
            x.tear(0);
            finds(x, NOTHING, () -> x.mean(0), () -> x.mean(5));
        });
        says("7: NOUGHT: a ROW of no ints", x -> {
            x.row(0, 0);
            finds(x, NOUGHT, () -> x.mean(0));
            lay(x, 1, 9);
            x.mean(1);
            x.row(1, 0);
            finds(x, NOUGHT, () -> x.mean(1));
            due(x.asked(), 9);
        });
    }

    private static void text() {
        says("8: a TEXT is there with n blanks: n", x -> {
            due(x.text(3, 2), 2);
            due(x.count(7), 1);
            due(x.put(3, 0, 1), 1032);
            due(x.put(3, 1, 1), 1032);
            finds(x, BEYOND, () -> x.put(3, 2, 1));
        });
        says("8: anew: blanks in all places, those too that it had before", x -> {
            x.text(0, 80);
            x.put(0, 1, 65);
            x.put(0, 79, 66);
            due(x.text(0, 2), 2);
            due(x.put(0, 1, 67), 1032);
            due(x.text(0, 80), 80);
            due(x.put(0, 1, 0), 1032);
            due(x.put(0, 79, 0), 1032);
            due(x.count(7), 1);
        });
        says("Terms 1: a TEXT of 0 bytes is there, not missing", x -> {
            due(x.text(1, 0), 0);
            due(x.count(7), 1);
            finds(x, BEYOND, () -> x.put(1, 0, 1));
        });
        says("Terms 1: a TEXT of 80 bytes", x -> {
            due(x.text(1, 80), 80);
            due(x.put(1, 79, 1), 1032);
            finds(x, BEYOND, () -> x.put(1, 80, 1));
        });
        says("Terms 1: TEXTS 0 .. 3, each by itself", x -> {
            for (int t = 0; t < 4; t++) {
                due(x.text(t, t + 1), t + 1);
                x.put(t, t, t);
            }
            due(x.count(7), 4);
            for (int t = 0; t < 4; t++) {
                due(x.put(t, t, 9), 1000 + t);
                due(x.put(t, t + 1, 9), FINDING);
            }
        });
        says("8: BAD: a TEXT that there can't be", x ->
            refuses(x, BAD, () -> x.text(-1, 1), () -> x.text(4, 1), () -> x.text(LOW, 1), () -> x.text(HIGH, 1)));
        says("8: BAD: also n above 80", x -> {
            write(x, 2, "ab");
            refuses(x, BAD, () -> x.text(2, 81), () -> x.text(2, HIGH), () -> x.text(3, 81));
            due(x.put(2, 1, 0), 1000 + 'b');
        });
        says("8: SIZE: below 0", x -> {
            write(x, 2, "ab");
            finds(x, SIZE, () -> x.text(2, -1), () -> x.text(2, LOW), () -> x.text(3, -1));
            due(x.put(2, 1, 0), 1000 + 'b');
            due(x.count(7), 1);
        });
        says("8: BAD ahead of SIZE", x -> refuses(x, BAD, () -> x.text(4, -1), () -> x.text(-1, LOW)));
        says("TEXTS are no ROWS", x -> {
            x.text(0, 5);
            due(x.count(6), 0);
            x.row(1, 5);
            due(x.count(7), 1);
            finds(x, NOTHING, () -> x.at(0, 0), () -> x.put(1, 0, 0));
        });
    }

    private static void put() {
        says("9: byte i is v: what it was, and 1000 more", x -> {
            x.text(0, 2);
            due(x.put(0, 0, 65), 1032);
            due(x.put(0, 0, 66), 1065);
            due(x.put(0, 1, 0), 1032);
            due(x.put(0, 0, 0), 1066);
            due(x.put(0, 0, 0), 1000);
        });
        says("9: the greatest byte", x -> {
            x.text(0, 1);
            x.put(0, 0, 127);
            due(x.put(0, 0, 0), 1127);
        });
        says("9: the least byte", x -> {
            x.text(0, 1);
            x.put(0, 0, -128);
            due(x.put(0, 0, 0), 872);
        });
        says("9: v cut to a byte", x -> {
            int[][] all = {{128, -128}, {255, -1}, {256, 0}, {-129, 127}, {-256, 0}, {383, 127}, {384, -128},
                {HIGH, -1}, {LOW, 0}, {LOW + 127, 127}, {1 << 16, 0}, {0x1234, 0x34}};
            x.text(0, 1);
            x.put(0, 0, 0);
            for (int[] one : all) {
                x.put(0, 0, one[0]);
                due(x.put(0, 0, 0), 1000 + one[1]);
            }
        });
        says("9: BAD", x -> {
            write(x, 0, "a");
            refuses(x, BAD, () -> x.put(-1, 0, 1), () -> x.put(4, 0, 1), () -> x.put(LOW, 0, 1),
                () -> x.put(HIGH, 0, 1));
        });
        says("9: BAD ahead of BEYOND", x -> refuses(x, BAD, () -> x.put(-1, -1, 1), () -> x.put(4, 99, 1)));
        says("9: NOTHING: the TEXT is missing", x -> finds(x, NOTHING, () -> x.put(0, 0, 1), () -> x.put(3, 0, 1)));
        says("9: NOTHING ahead of BEYOND", x -> finds(x, NOTHING, () -> x.put(0, -1, 1), () -> x.put(0, 80, 1)));
        says("9: BEYOND: behind the last byte", x -> {
            write(x, 0, "abc");
            finds(x, BEYOND, () -> x.put(0, 3, 1), () -> x.put(0, 79, 1), () -> x.put(0, 80, 1),
                () -> x.put(0, HIGH, 1));
            due(x.put(0, 2, 1), 1000 + 'c');
        });
        says("9: BEYOND: ahead of the first byte", x -> {
            write(x, 0, "abc");
            finds(x, BEYOND, () -> x.put(0, -1, 1), () -> x.put(0, LOW, 1));
            due(x.put(0, 0, 1), 1000 + 'a');
        });
        says("41: put() tells nothing by asked()", x -> {
            lay(x, 0, 5);
            x.at(0, 0);
            x.text(0, 1);
            x.put(0, 0, 7);
            due(x.asked(), 5);
        });
    }

    public static void main(String[] args) {
        newObject();
        row();
        lay();
        at();
        tear();
        copy();
        copyRefused();
        copyBeyond();
        mean();
        text();
        put();
        end();
    }
}
