/** The edges of promises 10 to 15, a sentence each: faults, courts, suits, stocks, the damp. */
public final class CourtEdgesTest extends Edges {
    private CourtEdgesTest() {
    }

    private static void faults(String what, Object... textsAndPlaces) {
        says(what, z -> {
            for (int i = 0; i < textsAndPlaces.length; i += 2) {
                HeavyFiles x = new HeavyFiles();
                write(x, 3, (String) textsAndPlaces[i]);
                int fault = (int) textsAndPlaces[i + 1];
                unchanged(x, fault, () -> x.fault(3));
                if (fault != NONE) {
                    refuses(x, STATE, () -> x.court(3));
                } else {
                    takes(x.court(3));
                }
            }
        });
    }

    private static void blanks() {
        String many = " ".repeat(76);
        faults("Terms 1: blanks ahead, as many as wanted", " n1:2", NONE, many + "n1:2", NONE, "n1:2", NONE);
        faults("Terms 1: blanks between, as many as wanted",
            "n1:2 s1 o2", NONE, "n1:2s1o2", NONE, "n1:2       s1     o2", NONE, "n1:2s1 o2d31p42h50f6", NONE);
        faults("Terms 1: blanks behind, as many as wanted", "n1:2 ", NONE, "n1:2" + many, NONE, "n1:2s1   ", NONE);
        faults("Terms 1: no blanks within the first item",
            "n 1:2", 1, "n1 :2", 2, "n1: 2", 3, "n1 2:3", 2, "n1:2 3", 5, " n 1:2", 2);
        faults("Terms 1: no blanks within SUITS",
            "n1:2 s 1", 6, "n1:2 d 11", 6, "n1:2 d1 1", 7, "n1:2 p3 1", 7, "n1:2s1h1 0", 8, "n1:2 s", 6);
        faults("Terms 1: a blank is 32, nothing else", "\tn1:2", 0, "n1:2\ts1", 4, "n1:2 \n", 5, "n1:2\u00a0", 4,
            "n1:2\0", 4, "n1:2s1!", 6);
        faults("Terms 1: a FAULT of blanks alone is the size", " ", 1, "   ", 3, " ".repeat(80), 80);
    }

    private static void stocks() {
        faults("Terms 1: the first item is n: its place", "s1", 0, "N1:2", 0, "1:2", 0, "  m1:2", 2, ":", 0, "o1:2", 0);
        faults("Terms 1: then a STOCK: a figure that is none: its place",
            "n:2", 1, "nx", 1, "n-1:2", 1, "n/1:2", 1, "n:", 1, "ns1", 1);
        faults("Terms 1: then a : (58): its place", "n1;2", 2, "n1/2", 2, "n12s1", 3, "n1n2:", 2, "n1s1", 2);
        faults("Terms 1: then a STOCK: its place", "n1:x", 3, "n1:s1", 3, "n1::2", 3, "n1:-2", 3, "n11:/", 4);
        faults("Terms 1: STOCKS of one figure", "n0:0", NONE, "n9:9", NONE, "n0:9s1", NONE);
        faults("Terms 1: STOCKS of two figures", "n00:00", NONE, "n09:01", NONE, "n40:40", NONE, "n10:39", NONE);
        faults("Terms 1: STOCKS of no three figures", "n001:1", 3, "n400:1", 3, "n1:001", 5, "n1:400", 5, "n1:0400", 5);
        faults("Terms 1: a STOCK out of these: the place behind", "n41:1", 3, "n99:1", 3, "n41", 3, " n50x", 4,
            "n410:1", 3);
        faults("Terms 1: the other STOCK out of these: the place behind",
            "n1:41", 5, "n1:99", 5, "n40:41 s1", 6, "n1:411", 5, "n1:50x", 5);
        says("Terms 1: each STOCK out of these, and none that is of these", z -> {
            for (int v = 0; v <= 99; v++) {
                HeavyFiles x = new HeavyFiles();
                write(x, 0, "n" + v + ":1");
                due(x.fault(0), v > 40 ? 3 : NONE);
                write(x, 0, "n1:" + v);
                due(x.fault(0), v > 40 ? 5 : NONE);
            }
        });
    }

    private static void suits() {
        faults("Terms 1: SUITS, none, too", "n1:2", NONE, "n1:2  ", NONE);
        faults("Terms 1: SUITS, 6 at most", "n1:2s1s1s1s1s1s1", NONE, "n1:2 s1 o1 f1 d11 p11 h10", NONE);
        faults("Terms 1: a seventh SUIT: its letter",
            "n1:2s1s1s1s1s1s1s1", 16, "n1:2s1s1s1s1s1s1  s1", 18, "n1:2s1s1s1s1s1s1s", 16,
            "n1:2d11d11d11d11d11d11o", 22);
        faults("Terms 1: a letter that is none such: its place",
            "n1:2 a1", 5, "n1:2 S1", 5, "n1:2 n1", 5, "n1:2 s1x", 7, "n1:2s1 9", 7, "n1:2s1s1s1s1s1s1x", 16,
            "n1:2 :", 5, "n1:2 \u00f31", 5);
        says("Terms 1: letters s, o, f, d, p, h alone", z -> {
            for (int sign = -128; sign < 128; sign++) {
                HeavyFiles x = new HeavyFiles();
                write(x, 0, "n1:2 s1 s11");
                x.put(0, 8, sign);
                x.put(0, 10, sign == 'h' ? '0' : '1');
                int due = sign == 'd' || sign == 'p' || sign == 'h' ? NONE
                    : sign == 's' || sign == 'o' || sign == 'f' ? 10 : sign == 32 ? 9 : 8;
                due(x.fault(0), due);
            }
        });
        faults("Terms 1: WORTH 1 .. 9", "n1:2 s1", NONE, "n1:2 s9", NONE, "n1:2 s0", 6, "n1:2 o0", 6, "n1:2 d01", 6,
            "n1:2 p01", 6, "n1:2s1h00", 7);
        faults("Terms 1: WORTH is a figure", "n1:2 s/", 6, "n1:2 s:", 6, "n1:2 ss1", 6, "n1:2 f-1", 6, "n1:2 h", 6);
        faults("Terms 1: WORTH of one figure", "n1:2 s10", 7, "n1:2 o11", 7, "n1:2 f99", 7, "n1:2 d123", 8,
            "n1:2s1h103", 9);
        faults("Terms 1: of d, p, h one figure more", "n1:2 dx", 6, "n1:2 d1x", 7, "n1:2 d1d11", 7, "n1:2 p5s1", 7,
            "n1:2s1h1s1", 8);
    }

    private static void figures() {
        faults("Terms 1: DAMP: k 1 .. 9", "n1:2 d11", NONE, "n1:2 d19", NONE, "n1:2 d10", 7, "n1:2 d1:", 7,
            "n1:2 d1/", 7);
        faults("Terms 1: PILE: k 1 .. 9", "n1:2 p11", NONE, "n1:2 p19", NONE, "n1:2 p10", 7, "n1:2 p1:", 7,
            "n1:2 p1/", 7);
        faults("Terms 1: HANGING: j the number of a SUIT told ahead",
            "n1:2 s1h10", NONE, "n1:2 s1s1h11", NONE, "n1:2s1s1s1s1s1h14", NONE, "n1:2s1h10h11", NONE);
        faults("Terms 1: HANGING: j is no SUIT told ahead: its own number, one behind",
            "n1:2 h10", 7, "n1:2 s1h11", 9, "n1:2 s1h12", 9, "n1:2s1s1h12s1", 10, "n1:2s1s1s1s1s1h15", 16,
            "n1:2s1h19", 8);
        faults("Terms 1: the TEXT's size, if its end comes too early",
            "", 0, "n", 1, "n1", 2, "n40", 3, "n1:", 3, "n1:2 s", 6, "n1:2 d", 6, "n1:2 d1", 7, "n1:2 p1", 7,
            "n1:2 s1 h1", 10,
            "n1:2s1f", 7);
        says("Terms 1: the TEXT's size of 80, if its end comes too early", x -> {
            x.text(0, 80);
            String text = "n1:2";
            for (int i = 0; i < 4; i++) {
                x.put(0, i, text.charAt(i));
            }
            due(x.fault(0), NONE);
            x.put(0, 79, 's');
            due(x.fault(0), 80);
            x.put(0, 78, 's');
            x.put(0, 79, '4');
            due(x.fault(0), NONE);
        });
    }

    private static void fault() {
        says("10: a FAULT of that TEXT, not of another one", x -> {
            write(x, 0, "n1:2 s1");
            write(x, 1, "n1:2 s");
            due(x.fault(0), NONE);
            due(x.fault(1), 6);
            due(x.fault(0), NONE);
        });
        says("10: of a TEXT made shorter, nothing of what was behind", x -> {
            write(x, 0, "n1:2 x");
            x.text(0, 4);
            due(x.fault(0), 4);
        });
        says("10: it stays as it is, the COURT, too", z -> {
            HeavyFiles x = small();
            write(x, 1, "n1:2 o1");
            write(x, 2, "n1:2 o1 x");
            unchanged(x, NONE, () -> x.fault(1));
            unchanged(x, 8, () -> x.fault(2));
            tells(x, x.suit(0, 0), 0);
            due(x.count(0), 4);
        });
        says("10: BAD", x -> refuses(x, BAD, () -> x.fault(-1), () -> x.fault(4), () -> x.fault(LOW),
            () -> x.fault(HIGH)));
        says("10: NOTHING: the TEXT is missing", x -> {
            x.text(1, 4);
            finds(x, NOTHING, () -> x.fault(0), () -> x.fault(2), () -> x.fault(3));
        });
    }

    private static void court() {
        says("11: how many SUITS", x -> {
            write(x, 0, "n1:2");
            due(x.court(0), 0);
            write(x, 1, "n1:2 s1");
            due(x.court(1), 1);
            write(x, 2, SIX);
            due(x.court(2), 6);
            due(x.court(1), 1);
        });
        says("11: the STOCKS told there", x -> {
            court(x, "n40:07");
            due(x.stock(0, 0), 40);
            due(x.stock(1, 0), 7);
        });
        says("11: anew: DAMP 0", x -> {
            court(x, SIX);
            x.damp(9);
            x.court(0);
            due(x.damp(0), 0);
        });
        says("11: anew: no SHEETS of LENDERS", x -> {
            court(x, SIX);
            for (int l = 0; l < 4; l++) {
                x.lender(l, 20);
            }
            x.court(0);
            for (int l = 0; l < 4; l++) {
                due(x.lender(l, 0), 0);
            }
        });
        says("11: anew: no NOTES", x -> {
            court(x, "n1:1 s1");
            x.row(0, 1);
            x.note(0, 1);
            x.court(0);
            due(x.count(4), 0);
            due(x.note(0, 0), 0);
        });
        says("11: anew: no kept COURTS", x -> {
            court(x, "n1:1 s1");
            for (int k = 0; k < 3; k++) {
                x.keep(k);
            }
            x.court(0);
            due(x.count(5), 0);
            finds(x, NOTHING, () -> x.on(0), () -> x.on(1), () -> x.on(2));
        });
        says("11: anew: fewer SUITS, another KIND in a place", x -> {
            court(x, SIX);
            write(x, 1, "n1:1 d12 s7");
            x.court(1);
            refuses(x, BAD, () -> x.suit(2, 0), () -> x.suit(5, 0));
            tells(x, x.suit(0, 2), 2);
            write(x, 1, "n1:1 s3 s7");
            x.court(1);
            tells(x, x.suit(0, 2), NONE);
            due(x.count(1), 10);
        });
        says("11: ROWS, TEXTS, what was told stay", x -> {
            lay(x, 2, 4, 5);
            write(x, 3, "ab");
            write(x, 0, "n1:1 s1");
            x.at(2, 1);
            due(x.court(0), 1);
            due(x.asked(), 5);
            holds(x, 2, 4, 5);
            due(x.put(3, 1, 0), 1000 + 'b');
        });
        courtRefused();
    }

    private static void courtRefused() {
        says("11: what comes behind in the TEXT does not change the COURT", x -> {
            court(x, "n3:3 s1");
            x.put(0, 1, '9');
            x.put(0, 6, '8');
            due(x.stock(0, 3), 3);
            tells(x, x.suit(0, 1), 1);
        });
        says("11: BAD", z -> {
            HeavyFiles x = small();
            refuses(x, BAD, () -> x.court(-1), () -> x.court(4), () -> x.court(LOW), () -> x.court(HIGH));
        });
        says("11: NOTHING: the TEXT is missing (not STATE)", z -> {
            HeavyFiles x = small();
            finds(x, NOTHING, () -> x.court(1), () -> x.court(2), () -> x.court(3));
        });
        says("11: STATE: a FAULT", z -> {
            HeavyFiles x = small();
            x.damp(2);
            x.lender(3, 3);
            x.keep(2);
            x.note(5, 0);
            write(x, 1, "n5:6 s5 o3 d41 h79");
            write(x, 2, "");
            refuses(x, STATE, () -> x.court(1), () -> x.court(2));
            tells(x, x.suit(3, 2), 0);
            due(x.on(2), 0);
        });
        says("11: IN TURN goes by the new COURT", x -> {
            court(x, "n1:1 s4");
            tells(x, x.from(0, 1, 0), 8);
            write(x, 1, "n1:1 f3");
            x.court(1);
            tells(x, x.from(0, 1, 0), 0);
        });
    }

    private static void suit() {
        says("12: KIND, WORTH, k or j (NONE: neither), told by asked()", x -> {
            court(x, "n1:1 s1 o9 f2 d39 p41 h50");
            int[][] all = {{0, 1, NONE}, {1, 9, NONE}, {2, 2, NONE}, {3, 3, 9}, {4, 4, 1}, {5, 5, 0}};
            for (int i = 0; i < 6; i++) {
                for (int what = 0; what < 3; what++) {
                    tells(x, x.suit(i, what), all[i][what]);
                }
            }
        });
        says("12: j of the last SUIT ahead", x -> {
            court(x, "n1:1s1s1s1s1s1h14");
            tells(x, x.suit(5, 2), 4);
        });
        says("12: BAD: a SUIT that there is not", z -> {
            HeavyFiles x = small();
            refuses(x, BAD, () -> x.suit(-1, 0), () -> x.suit(4, 0), () -> x.suit(5, 0), () -> x.suit(6, 0),
                () -> x.suit(LOW, 0), () -> x.suit(HIGH, 0));
        });
        says("12: BAD: of six SUITS the seventh", x -> {
            court(x, SIX);
            refuses(x, BAD, () -> x.suit(6, 0));
            tells(x, x.suit(5, 0), 5);
        });
        says("12: BAD: of a SUIT something else", z -> {
            HeavyFiles x = small();
            refuses(x, BAD, () -> x.suit(0, -1), () -> x.suit(0, 3), () -> x.suit(3, LOW), () -> x.suit(3, HIGH));
        });
        says("12: BAD: no SUITS", x -> {
            court(x, "n1:1");
            refuses(x, BAD, () -> x.suit(0, 0), () -> x.suit(-1, 0));
        });
    }

    private static void mark() {
        says("13: an OWN one: how many OWN ones (HANGING, too) there are", x -> {
            court(x, "n1:1 o1 s1 h11 f1 o2 d11");
            unchanged(x, 3, () -> x.mark(0, 1), () -> x.mark(4, 1));
        });
        says("13: a HANGING one as OWN", x -> {
            court(x, "n1:1 s1 h10");
            unchanged(x, 1, () -> x.mark(1, 1));
        });
        says("13: a FLY its SCORE, if nobody lays", x -> {
            court(x, "n1:1 f7 f1");
            x.damp(9);
            unchanged(x, 7, () -> x.mark(0, 2));
            unchanged(x, 1, () -> x.mark(1, 2));
        });
        says("13: a DAMP one (PILE, too) by how much the DAMP weighs there now", x -> {
            court(x, "n1:1 d19 p13");
            unchanged(x, 0, () -> x.mark(0, 3), () -> x.mark(1, 3));
            x.damp(9);
            unchanged(x, 81, () -> x.mark(0, 3));
            unchanged(x, 27, () -> x.mark(1, 3));
            x.damp(1);
            unchanged(x, 9, () -> x.mark(0, 3));
        });
        says("13: a PILE how many of it the greater STOCK makes, cut", x -> {
            court(x, "n5:9 p15");
            due(x.mark(0, 4), 1);
            x.stock(1, 10);
            due(x.mark(0, 4), 2);
            x.stock(0, 40);
            due(x.mark(0, 4), 8);
            x.stock(0, 4);
            x.stock(1, 4);
            due(x.mark(0, 4), 0);
            x.stock(0, 0);
            x.stock(1, 0);
            due(x.mark(0, 4), 0);
        });
        says("13: a PILE of 1, of 9", x -> {
            court(x, "n40:0 p11 p19");
            due(x.mark(0, 4), 40);
            due(x.mark(1, 4), 4);
            x.stock(0, 8);
            due(x.mark(1, 4), 0);
        });
        says("13: a HANGING one how many SUITS hang on it", x -> {
            court(x, "n1:1 s1 h10 h11 h11 h10 h12");
            due(x.mark(1, 5), 2);
            due(x.mark(2, 5), 1);
            due(x.mark(3, 5), 0);
            due(x.mark(5, 5), 0);
        });
        markRefused();
    }

    private static void markRefused() {
        says("13: BAD: a SUIT that there is not", z -> {
            HeavyFiles x = small();
            refuses(x, BAD, () -> x.mark(-1, 1), () -> x.mark(4, 1), () -> x.mark(LOW, 1), () -> x.mark(HIGH, 1));
        });
        says("13: BAD: also KIND 0", z -> {
            HeavyFiles x = small();
            refuses(x, BAD, () -> x.mark(0, 0), () -> x.mark(1, 0));
        });
        says("13: BAD: a KIND that there is not", z -> {
            HeavyFiles x = small();
            refuses(x, BAD, () -> x.mark(1, -1), () -> x.mark(1, 6), () -> x.mark(1, LOW), () -> x.mark(1, HIGH));
        });
        says("13: UNLIKE: a SUIT of another KIND", z -> {
            boolean[][] is = {{false, false, false, false, false}, {true, false, false, false, false},
                {false, true, false, false, false}, {false, false, true, false, false},
                {false, false, true, true, false}, {true, false, false, false, true}};
            for (int i = 0; i < 6; i++) {
                HeavyFiles x = with(SIX);
                int suit = i;
                for (int kind = 1; kind <= 5; kind++) {
                    int one = kind;
                    if (is[i][kind - 1]) {
                        takes(x.mark(i, kind));
                    } else {
                        finds(x, UNLIKE, () -> x.mark(suit, one));
                    }
                }
            }
        });
    }

    private static void stock() {
        says("14: the STOCK of a SIDE is v: what it was", x -> {
            due(x.stock(0, 40), 0);
            due(x.stock(1, 7), 0);
            due(x.stock(0, 0), 40);
            due(x.stock(1, 40), 7);
            due(x.stock(1, 0), 40);
            due(x.stock(0, 0), 0);
        });
        says("14: BAD: a SIDE that there is not", x -> {
            x.stock(0, 3);
            refuses(x, BAD, () -> x.stock(-1, 1), () -> x.stock(2, 1), () -> x.stock(LOW, 1), () -> x.stock(HIGH, 1));
        });
        says("14: BAD: fewer than none, more than 40", x -> {
            x.stock(0, 3);
            refuses(x, BAD, () -> x.stock(0, -1), () -> x.stock(0, 41), () -> x.stock(1, LOW), () -> x.stock(1, HIGH));
        });
        says("14: without SUITS, too; nothing else changes", z -> {
            HeavyFiles x = small();
            x.at(5, 0);
            x.stock(0, 40);
            due(x.asked(), 0);
            due(x.count(0), 4);
            due(x.stock(1, 7), 7);
        });
    }

    private static void damp() {
        says("15: the DAMP is v: what it was", x -> {
            due(x.damp(9), 0);
            due(x.damp(0), 9);
            due(x.damp(5), 0);
            due(x.damp(5), 5);
        });
        says("15: BAD: below 0, above 9", x -> {
            x.damp(4);
            refuses(x, BAD, () -> x.damp(-1), () -> x.damp(10), () -> x.damp(LOW), () -> x.damp(HIGH));
            due(x.damp(4), 4);
        });
    }

    public static void main(String[] args) {
        blanks();
        stocks();
        suits();
        figures();
        fault();
        court();
        suit();
        mark();
        stock();
        damp();
        end();
    }
}
