/** The edges of promises 32 to 40, a sentence each: damp days, rules, notes, kept courts. */
public final class RuleEdgesTest extends Edges {
    private static final int ALL_RULES = 63;

    private RuleEdgesTest() {
    }

    private static void when() {
        says("32: the least DAMP of those alike; that BEST by asked()", z -> {
            HeavyFiles x = with("n4:9 d42 p35");
            lay(x, 0, 5, 3);
            both(x, x.when(0), 0, 3);
            x.stock(0, 5);
            both(x, x.when(0), 0, 7);
        });
        says("32: the DAMP stays", z -> {
            HeavyFiles x = with("n4:9 d42 p35");
            lay(x, 0, 5, 3);
            x.damp(9);
            long before = x.digest();
            both(x, x.when(0), 0, 3);
            due(x.digest(), before);
            due(x.damp(0), 9);
        });
        says("32: no STOCK", z -> {
            HeavyFiles x = with("n0:9 d42 p35");
            lay(x, 0, 0, 1);
            both(x, x.when(0), 0, 7);
        });
        says("32: no SUITS: 0; 0", x -> {
            x.row(0, 0);
            lay(x, 1, 4);
            x.at(1, 0);
            both(x, x.when(0), 0, 0);
        });
        refusesLayings("32: when()", 1, HeavyFiles::when);
    }

    private static void rule(HeavyFiles x, int which, int... laid) {
        int all = 0;
        for (int v : laid) {
            all += v;
        }
        due(x.rule(which, 3), all);
        holds(x, 3, laid);
    }

    private static void rule() {
        says("Terms 3: EVEN: cut; 1 more for each of the first ones", z -> {
            HeavyFiles x = with("n0:11 s1 s1 s1 s1");
            rule(x, 0, 3, 3, 3, 2);
            x.stock(1, 12);
            rule(x, 0, 3, 3, 3, 3);
            x.stock(1, 13);
            rule(x, 0, 4, 3, 3, 3);
        });
        says("Terms 3: EVEN: fewer than SUITS", z -> {
            HeavyFiles x = with("n0:2 s1s1s1");
            rule(x, 0, 1, 1, 0);
        });
        says("Terms 3: EVEN: 40 among six", z -> rule(with("n0:40s1s1s1s1s1s1"), 0, 7, 7, 7, 7, 6, 6));
        says("Terms 3: WORTH: c times WORTH by all WORTHS together, cut; what is left on SUIT 0", z -> {
            HeavyFiles x = with("n0:11 s2 s5 s5 s3");
            rule(x, 1, 3, 3, 3, 2);
            x.stock(1, 15);
            rule(x, 1, 2, 5, 5, 3);
            x.stock(1, 1);
            rule(x, 1, 1, 0, 0, 0);
        });
        says("Terms 3: WORTH: the greatest numbers", z -> rule(with("n0:40 s9s9s9s9s9s9"), 1, 10, 6, 6, 6, 6, 6));
        says("Terms 3: FIRST: all on SUIT 0", z -> rule(with("n0:40 s1 s9 s1"), 2, 40, 0, 0));
        says("Terms 3: LAST: all on the last one", z -> rule(with("n0:40 s1 s9 s1"), 3, 0, 0, 40));
        says("Terms 3: GREAT: all on that of the greatest WORTH, the first", z -> {
            rule(with("n0:7 s1 s9 s2 s9"), 4, 0, 7, 0, 0);
            rule(with("n0:7 s4 s4 s4"), 4, 7, 0, 0);
            rule(with("n0:7 s1 s2 s3"), 4, 0, 0, 7);
        });
        says("Terms 3: a single SUIT", z -> {
            HeavyFiles x = with("n0:5 f1");
            for (int which = 0; which < 5; which++) {
                rule(x, which, 5);
            }
            rule(x, 5, 0);
        });
        says("Terms 3: no STOCK", z -> {
            HeavyFiles x = with("n40:0 s1 s2");
            for (int which = 0; which < 6; which++) {
                rule(x, which, 0, 0);
            }
        });
        back5();
        ruleRefused();
    }

    private static void back5() {
        says("Terms 3: BACK without a NOTE ahead: none", z -> {
            HeavyFiles x = with("n9:9 s1 s2");
            rule(x, 5, 0, 0);
            lay(x, 0, 4, 5);
            x.note(0, 0);
            x.back(0);
            rule(x, 5, 0, 0);
        });
        says("Terms 3: BACK: as SIDE 0 laid at the NOTE ahead, the latest", z -> {
            HeavyFiles x = with("n9:9 s1 s2");
            lay(x, 0, 4, 5);
            x.note(0, 0);
            rule(x, 5, 4, 5);
            lay(x, 0, 0, 2);
            x.note(0, 0);
            rule(x, 5, 0, 2);
            x.back(1);
            rule(x, 5, 4, 5);
        });
        says("Terms 3: BACK as far as its STOCK goes, SUIT by SUIT", z -> {
            HeavyFiles x = with("n9:9 s1 s2 s3");
            lay(x, 0, 4, 2, 3);
            x.note(0, 0);
            int[][] all = {{0, 0, 0}, {3, 0, 0}, {4, 0, 0}, {4, 1, 0}, {4, 2, 0}, {4, 2, 2}, {4, 2, 3}, {4, 2, 3}};
            int[] stocks = {0, 3, 4, 5, 6, 8, 9, 40};
            for (int i = 0; i < 8; i++) {
                x.stock(1, stocks[i]);
                rule(x, 5, all[i]);
            }
        });
        says("33: BACK: at the NOTE that comes next, with all 8 NOTES", z -> {
            HeavyFiles x = with("n9:9 s1 s2");
            for (int k = 0; k < 8; k++) {
                lay(x, 0, k, 0);
                x.note(0, 0);
            }
            rule(x, 5, 7, 0);
        });
    }

    private static void ruleRefused() {
        says("33: it comes to a ROW anew; nothing by asked()", z -> {
            HeavyFiles x = with("n0:5 s1 s2");
            lay(x, 1, 8, 8, 8, 8);
            x.at(1, 0);
            due(x.rule(2, 1), 5);
            due(x.asked(), 8);
            holds(x, 1, 5, 0);
            due(x.rule(0, 5), 5);
            holds(x, 5, 3, 2);
        });
        says("33: BAD: a RULE that there is not", z -> {
            HeavyFiles x = small();
            refuses(x, BAD, () -> x.rule(-1, 0), () -> x.rule(6, 0), () -> x.rule(LOW, 0), () -> x.rule(HIGH, 0));
        });
        says("33: BAD: a ROW that there is not", z -> {
            HeavyFiles x = small();
            refuses(x, BAD, () -> x.rule(0, -1), () -> x.rule(0, 6), () -> x.rule(5, LOW), () -> x.rule(5, HIGH));
        });
        says("33: NOUGHT: no SUITS", x -> {
            court(x, "n5:5");
            lay(x, 0, 1);
            finds(x, NOUGHT, () -> x.rule(0, 0), () -> x.rule(5, 0), () -> x.rule(2, 5));
            holds(x, 0, 1);
        });
        says("33: BAD ahead of NOUGHT", x -> refuses(x, BAD, () -> x.rule(6, 0), () -> x.rule(0, 6),
            () -> x.rule(-1, 0)));
    }

    private static void note() {
        says("34: its number: 0, 1, ..; 8 at most", z -> {
            HeavyFiles x = with("n4:4 s1 s2");
            lay(x, 0, 3, 1);
            for (int k = 0; k < 8; k++) {
                due(x.note(0, k % 4), k);
            }
            due(x.count(4), 8);
        });
        says("34: FULL: a ninth", z -> {
            HeavyFiles x = eight();
            refuses(x, FULL, () -> x.note(0, 3), () -> x.note(0, 0));
            x.back(7);
            due(x.note(0, 3), 7);
            refuses(x, FULL, () -> x.note(0, 3));
        });
        says("34: NOTHING, SIZE, UNLIKE ahead of FULL", z -> {
            HeavyFiles x = eight();
            finds(x, NOTHING, () -> x.note(5, 0));
            lay(x, 5, 3);
            finds(x, SIZE, () -> x.note(5, 0));
            lay(x, 5, 3, 2);
            finds(x, UNLIKE, () -> x.note(5, 0));
        });
        says("34: BAD ahead of NOTHING, FULL", z -> {
            HeavyFiles x = eight();
            refuses(x, BAD, () -> x.note(0, 4), () -> x.note(6, 0), () -> x.note(5, -1), () -> x.note(5, 4));
        });
        says("34: BAD: a set of other SUITS", z -> {
            HeavyFiles x = with("n4:4 s1 s2");
            x.row(0, 2);
            refuses(x, BAD, () -> x.note(0, -1), () -> x.note(0, 4), () -> x.note(0, 8), () -> x.note(0, LOW),
                () -> x.note(0, HIGH));
            due(x.note(0, 3), 0);
        });
        says("34: all of six SUITS", x -> {
            court(x, SIX);
            x.row(0, 6);
            refuses(x, BAD, () -> x.note(0, 64));
            due(x.note(0, 63), 0);
        });
        says("34: no SUITS: the set of none alone", x -> {
            x.row(0, 0);
            due(x.note(0, 0), 0);
            refuses(x, BAD, () -> x.note(0, 1), () -> x.note(0, -1));
        });
        says("34: what was laid, whatever comes of the ROW", z -> {
            HeavyFiles x = with("n4:4 s1 s2");
            lay(x, 0, 3, 1);
            x.note(0, 1);
            x.lay(0, 0, 0);
            x.tear(0);
            rule(x, 5, 3, 1);
        });
        says("34: which SUITS it WON, as told", z -> {
            HeavyFiles x = with("n4:4 s1 s2");
            lay(x, 0, 0, 0);
            due(x.note(0, 3), 0);
            // it need not be so that it could have WON these
            due(x.rules(), 0);
        });
        refusesLayings("34: note()", 0, (x, r) -> x.note(r, 15));
    }

    private static HeavyFiles eight() {
        HeavyFiles x = with("n4:4 s1 s2");
        lay(x, 0, 3, 1);
        for (int k = 0; k < 8; k++) {
            x.note(0, 0);
        }
        return x;
    }

    private static void back() {
        says("35: NOTES from number n on go: how many went", z -> {
            HeavyFiles x = eight();
            due(x.back(7), 1);
            due(x.count(4), 7);
            due(x.back(2), 5);
            due(x.back(0), 2);
            due(x.count(4), 0);
        });
        says("35: to how many there are: none then", z -> {
            HeavyFiles x = eight();
            unchanged(x, 0, () -> x.back(8));
            x.back(3);
            unchanged(x, 0, () -> x.back(3));
            x.back(0);
            unchanged(x, 0, () -> x.back(0));
        });
        says("35: BAD: above how many there are", z -> {
            HeavyFiles x = eight();
            refuses(x, BAD, () -> x.back(9), () -> x.back(HIGH));
            x.back(3);
            refuses(x, BAD, () -> x.back(4), () -> x.back(8));
        });
        says("35: BAD: below 0", z -> {
            HeavyFiles x = eight();
            refuses(x, BAD, () -> x.back(-1), () -> x.back(LOW));
        });
        says("35: those ahead stay", z -> {
            HeavyFiles x = with("n4:4 s1 s2");
            lay(x, 0, 3, 1);
            x.note(0, 2);
            long one = x.digest();
            x.note(0, 1);
            x.note(0, 0);
            x.back(1);
            due(x.digest(), one);
        });
    }

    private static void rules() {
        says("36: no NOTES: all RULES FIT", z -> {
            HeavyFiles x = with("n6:6 s1 s3");
            both(x, x.rules(), ALL_RULES, 5);
        });
        says("36: how many tell unlike LAYINGS: a single SUIT", z -> {
            HeavyFiles x = with("n6:6 s1");
            both(x, x.rules(), ALL_RULES, 2);
            x.stock(1, 0);
            both(x, x.rules(), ALL_RULES, 1);
        });
        says("36: all six unlike, behind tell(), too", z -> {
            HeavyFiles x = with("n9:7 s2 s3 s1");
            // (3,2,2) (3,3,1) (7,0,0) (0,0,7) (0,7,0) (0,0,0)
            both(x, x.rules(), ALL_RULES, 6);
            x.tell(0);
            both(x, x.rules(), ALL_RULES, 6);
        });
        says("36: how many of those that FIT tell unlike LAYINGS", z -> {
            HeavyFiles x = with("n6:6 s3 s1");
            lay(x, 0, 4, 2);
            x.note(0, 2);
            // WORTH (5, 1); FIRST, GREAT, both (6, 0)
            both(x, x.rules(), 2 | 4 | 16, 2);
        });
        says("Terms 3: a RULE FITS, if just these are WON, no more, no fewer", z -> {
            HeavyFiles x = with("n6:6 s1 s3");
            lay(x, 0, 4, 2);
            // EVEN, WORTH, LAST, GREAT: the first; FIRST: the other one; BACK: both
            int[] fit = {0, 1 | 2 | 8 | 16, 4, 32};
            int[] unlike = {0, 3, 1, 1};
            for (int won = 0; won < 4; won++) {
                x.back(0);
                x.note(0, won);
                both(x, x.rules(), fit[won], unlike[won]);
            }
        });
        says("Terms 3: what nobody WON SIDE 0 did not win", z -> {
            HeavyFiles x = with("n3:3 s1 s1");
            lay(x, 0, 2, 1);
            x.note(0, 0);
            both(x, x.rules(), 1 | 2, 1);
        });
        says("Terms 3: at each NOTE", z -> {
            HeavyFiles x = with("n6:6 s1 s3");
            lay(x, 0, 4, 2);
            x.note(0, 1);
            lay(x, 0, 3, 3);
            x.note(0, 0);
            // EVEN leaves both even; WORTH (2, 4), LAST, GREAT (0, 6) let SIDE 0 win the first
            both(x, x.rules(), 1, 1);
            x.note(0, 1);
            both(x, x.rules(), 0, 0);
        });
        says("Terms 3: BACK at the first NOTE lays none, then as at the NOTE ahead", z -> {
            HeavyFiles x = with("n6:6 s1 s3");
            lay(x, 0, 4, 2);
            x.note(0, 3);
            both(x, x.rules(), 32, 1);
            lay(x, 0, 5, 1);
            x.note(0, 1);
            both(x, x.rules(), 32, 1);
            x.note(0, 0);
            both(x, x.rules(), 32, 1);
        });
        rulesNow();
    }

    private static void rulesNow() {
        says("Terms 3: with the STOCK as it is now", z -> {
            HeavyFiles x = with("n6:6 s1 s3");
            lay(x, 0, 4, 2);
            x.note(0, 1);
            x.stock(1, 4);
            // EVEN (2,2), WORTH (1,3), LAST, GREAT (0,4)
            both(x, x.rules(), 1 | 2 | 8 | 16, 3);
            x.stock(1, 3);
            // EVEN (2,1), WORTH (1,2), LAST, GREAT (0,3)
            both(x, x.rules(), 2 | 8 | 16, 2);
            x.stock(1, 0);
            both(x, x.rules(), 0, 0);
        });
        says("Terms 3: SIDE 0's STOCK may be less than was laid at a NOTE", z -> {
            HeavyFiles x = with("n6:6 s1 s3");
            lay(x, 0, 4, 2);
            x.note(0, 1);
            x.stock(0, 0);
            both(x, x.rules(), 1 | 2 | 8 | 16, 3);
        });
        says("36: 8 NOTES", z -> {
            HeavyFiles x = with("n6:6 s1 s3");
            lay(x, 0, 4, 2);
            for (int k = 0; k < 7; k++) {
                x.note(0, 1);
            }
            both(x, x.rules(), 1 | 2 | 8 | 16, 3);
            x.note(0, 2);
            both(x, x.rules(), 0, 0);
        });
        says("36: NOUGHT: no SUITS", x -> {
            finds(x, NOUGHT, x::rules);
            court(x, "n5:5");
            finds(x, NOUGHT, x::rules);
        });
        says("36: it changes nothing but asked()", z -> {
            HeavyFiles x = with("n6:6 s1 s3");
            long before = x.digest();
            x.rules();
            due(x.digest(), before);
            fraction(x, 0, 1);
        });
    }

    private static void reply() {
        says("37: against the first RULE that FITS; the RULE by asked()", z -> {
            HeavyFiles x = with("n6:6 s1 s3");
            both(x, x.reply(2), 6, 0);
            holds(x, 2, 0, 4);
            lay(x, 0, 4, 2);
            x.note(0, 2);
            both(x, x.reply(2), 6, 2);
            holds(x, 2, 0, 1);
        });
        says("37: against BACK: at the NOTE that comes next", z -> {
            HeavyFiles x = with("n6:6 s1 s3");
            lay(x, 0, 4, 2);
            x.note(0, 3);
            both(x, x.reply(2), 6, 5);
            holds(x, 2, 0, 3);
        });
        says("37: by the STOCK of SIDE 0", z -> {
            HeavyFiles x = with("n3:6 s1 s3");
            // EVEN (3,3): 3 make the second even
            both(x, x.reply(2), 3, 0);
            holds(x, 2, 0, 3);
            x.stock(0, 7);
            both(x, x.reply(2), 7, 0);
            holds(x, 2, 3, 4);
        });
        says("37: it comes to a ROW anew", z -> {
            HeavyFiles x = with("n6:6 s1 s3");
            lay(x, 2, 9, 9, 9, 9);
            due(x.reply(2), 6);
            holds(x, 2, 0, 4);
        });
        says("37: no STOCKS", z -> {
            HeavyFiles x = with("n0:0 s1 o3");
            both(x, x.reply(0), 7, 0);
            holds(x, 0, 0, 0);
        });
        says("37: NONE: none FITS; the ROW stays, asked(), too", z -> {
            HeavyFiles x = with("n6:6 s1 s3");
            lay(x, 0, 4, 2);
            x.note(0, 0);
            lay(x, 2, 9);
            x.at(2, 0);
            unchanged(x, NONE, () -> x.reply(2), () -> x.reply(5));
            due(x.asked(), 9);
        });
        says("37: BAD", z -> {
            HeavyFiles x = small();
            refuses(x, BAD, () -> x.reply(-1), () -> x.reply(6), () -> x.reply(LOW), () -> x.reply(HIGH));
        });
        says("37: NOUGHT: no SUITS", x -> finds(x, NOUGHT, () -> x.reply(0), () -> x.reply(5)));
        says("37: BAD ahead of NOUGHT, of NONE", x -> {
            refuses(x, BAD, () -> x.reply(6), () -> x.reply(-1));
            court(x, "n6:6 s1 s3");
            lay(x, 0, 4, 2);
            x.note(0, 0);
            refuses(x, BAD, () -> x.reply(6), () -> x.reply(-1));
        });
    }

    private static void tell() {
        says("38: the first LAYING of all (by SUITS, the fewest first)", z -> {
            HeavyFiles x = with("n2:4 s1 s3");
            // EVEN (2,2), WORTH (1,3), FIRST (4,0), LAST, GREAT (0,4), BACK (0,0)
            due(x.tell(2), 4);
            holds(x, 2, 1, 1);
        });
        says("38: none FITS: 0, the LAYING of none", z -> {
            HeavyFiles x = with("n2:4 s1 s3");
            lay(x, 0, 0, 0);
            x.note(0, 3);
            due(x.tell(0), 0);
            holds(x, 0, 0, 0);
        });
        says("38: one FITS: 1, the LAYING of none", z -> {
            HeavyFiles x = with("n2:6 s1 s3");
            lay(x, 0, 1, 1);
            x.note(0, 3);
            due(x.rules(), 32);
            due(x.tell(0), 1);
            holds(x, 0, 0, 0);
        });
        says("38: RULES alone that FIT", z -> {
            HeavyFiles x = with("n2:4 s1 s3");
            lay(x, 0, 1, 1);
            x.note(0, 1);
            // LAST, GREAT, both (0, 4)
            due(x.rules(), 8 | 16);
            due(x.tell(0), 1);
            holds(x, 0, 0, 0);
        });
        says("38: EVEN, WORTH told apart", z -> {
            HeavyFiles x = with("n3:4 s1 s3");
            lay(x, 0, 1, 2);
            x.note(0, 0);
            // (2,2), (1,3): 3 on the second win it against EVEN alone
            both(x, x.rules(), 1 | 2, 2);
            due(x.tell(2), 2);
            holds(x, 2, 0, 3);
        });
        says("38: by the STOCK of SIDE 0", z -> {
            HeavyFiles x = with("n1:4 s1 s3");
            // (0, 1) wins nothing against LAST, the second against FIRST
            due(x.tell(2), 2);
            holds(x, 2, 0, 1);
        });
        says("38: no STOCK", z -> {
            HeavyFiles x = with("n0:2 o1 f1");
            // EVEN, WORTH (1,1) 2; FIRST, GREAT (2,0) 0; LAST (0,2) 3; BACK (0,0) 1
            due(x.tell(0), 4);
            holds(x, 0, 0, 0);
        });
        says("38: its STOCK 10, 4 SUITS, that of SIDE 1 40", z -> {
            HeavyFiles x = with("n10:40 s1 s1 s1 s1");
            takes(x.tell(0));
        });
        says("38: it comes to a ROW anew; nothing by asked()", z -> {
            HeavyFiles x = with("n2:4 s1 s3");
            lay(x, 2, 9, 9, 9, 9);
            x.at(2, 0);
            due(x.tell(2), 4);
            due(x.asked(), 9);
            holds(x, 2, 1, 1);
        });
        tellRefused();
    }

    private static void tellRefused() {
        says("38: SPENT: its STOCK is above 10", z -> {
            HeavyFiles x = with("n11:0 s1");
            refuses(x, SPENT, () -> x.tell(0));
            x.stock(0, 40);
            refuses(x, SPENT, () -> x.tell(0));
            x.stock(0, 10);
            takes(x.tell(0));
        });
        says("38: SPENT: more than 4 SUITS", x -> {
            court(x, "n0:0 s1s1s1s1s1");
            refuses(x, SPENT, () -> x.tell(0));
        });
        says("38: BAD", z -> {
            HeavyFiles x = small();
            refuses(x, BAD, () -> x.tell(-1), () -> x.tell(6), () -> x.tell(LOW), () -> x.tell(HIGH));
        });
        says("38: BAD ahead of SPENT, NOUGHT", x -> {
            refuses(x, BAD, () -> x.tell(-1), () -> x.tell(6));
            x.stock(0, 11);
            refuses(x, BAD, () -> x.tell(-1), () -> x.tell(6));
        });
        says("38: NOUGHT: no SUITS", x -> {
            x.stock(0, 10);
            finds(x, NOUGHT, () -> x.tell(0), () -> x.tell(5));
        });
        says("38: SPENT ahead of NOUGHT", x -> {
            x.stock(0, 11);
            refuses(x, SPENT, () -> x.tell(0), () -> x.tell(5));
        });
    }

    private static void keep() {
        says("39: kept in a place: how many NOTES", z -> {
            HeavyFiles x = with("n4:4 s1 s2");
            lay(x, 0, 1, 1);
            due(x.keep(0), 0);
            x.note(0, 1);
            due(x.keep(2), 1);
            due(x.count(5), 2);
            x.note(0, 1);
            due(x.keep(2), 2);
            due(x.count(5), 2);
            due(x.keep(1), 2);
            due(x.count(5), 3);
        });
        says("39: 8 NOTES", z -> {
            HeavyFiles x = eight();
            due(x.keep(1), 8);
            x.back(0);
            due(x.on(1), 8);
            refuses(x, FULL, () -> x.note(0, 0));
        });
        says("39: BAD: a place that there is not", z -> {
            HeavyFiles x = small();
            refuses(x, BAD, () -> x.keep(-1), () -> x.keep(3), () -> x.keep(LOW), () -> x.keep(HIGH));
        });
        says("39: STATE: there are no SUITS", x -> {
            refuses(x, STATE, () -> x.keep(0), () -> x.keep(2));
            court(x, "n4:4");
            refuses(x, STATE, () -> x.keep(0), () -> x.keep(2));
        });
        says("39: BAD ahead of STATE", x -> refuses(x, BAD, () -> x.keep(-1), () -> x.keep(3)));
        says("39: a kept COURT stays as it was kept", z -> {
            HeavyFiles x = with("n4:5 s1 s2");
            lay(x, 0, 1, 1);
            x.note(0, 1);
            x.keep(0);
            long before = x.digest();
            x.back(0);
            lay(x, 0, 2, 2);
            x.note(0, 2);
            x.note(0, 3);
            lay(x, 0, 1, 1);
            due(x.on(0), 1);
            due(x.digest(), before);
        });
    }

    private static void on() {
        says("40: as it was kept: STOCKS, DAMP, LENDERS, NOTES: how many", z -> {
            HeavyFiles x = with("n4:5 d12 s2");
            lay(x, 0, 1, 1);
            x.damp(3);
            x.lender(0, 6);
            x.lender(3, 20);
            x.note(0, 1);
            x.note(0, 2);
            x.keep(1);
            long kept = x.digest();
            x.stock(0, 9);
            x.stock(1, 40);
            x.damp(0);
            x.lender(0, 0);
            x.lender(3, 1);
            x.back(0);
            due(x.on(1), 2);
            due(x.digest(), kept);
            due(x.stock(0, 0), 4);
            due(x.stock(1, 0), 5);
            due(x.damp(0), 3);
            due(x.lender(0, 0), 6);
            due(x.lender(3, 0), 20);
        });
        says("40: once more, as it was kept", z -> {
            HeavyFiles x = with("n4:5 s1");
            x.keep(1);
            x.on(1);
            x.stock(0, 40);
            x.row(0, 1);
            x.note(0, 1);
            due(x.on(1), 0);
            due(x.stock(0, 0), 4);
            due(x.count(5), 1);
        });
        says("40: each place by itself", z -> {
            HeavyFiles x = with("n0:5 s1");
            for (int k = 0; k < 3; k++) {
                x.stock(0, k + 7);
                x.keep(k);
            }
            for (int k = 0; k < 3; k++) {
                due(x.on(k), 0);
                due(x.stock(0, 0), k + 7);
            }
        });
        says("40: ROWS, TEXTS, what was told stay", z -> {
            HeavyFiles x = with("n0:5 s1");
            x.keep(0);
            lay(x, 3, 4, 5);
            x.text(2, 3);
            x.at(3, 1);
            x.on(0);
            due(x.asked(), 5);
            holds(x, 3, 4, 5);
            due(x.count(7), 2);
        });
        says("40: BAD", z -> {
            HeavyFiles x = small();
            x.keep(0);
            refuses(x, BAD, () -> x.on(-1), () -> x.on(3), () -> x.on(LOW), () -> x.on(HIGH));
        });
        says("40: NOTHING: a kept COURT that is missing", z -> {
            HeavyFiles x = small();
            x.keep(1);
            finds(x, NOTHING, () -> x.on(0), () -> x.on(2));
            due(x.on(1), 0);
        });
        says("40: without SUITS, too, nothing is kept", x -> finds(x, NOTHING, () -> x.on(0)));
    }

    public static void main(String[] args) {
        when();
        rule();
        note();
        back();
        rules();
        reply();
        tell();
        keep();
        on();
        end();
    }
}
