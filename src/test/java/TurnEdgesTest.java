import java.util.Arrays;

/** The edges of promises 25 to 31, a sentence each: suits in turn, lenders. */
public final class TurnEdgesTest extends Edges {
    private TurnEdgesTest() {
    }

    private static void inTurn() {
        says("Terms 2: SIDE 1, who has seen it, lays one more", x -> {
            court(x, "n0:0 s3");
            tells(x, x.from(0, 4, 5), -6);
            tells(x, x.from(0, 5, 5), 0);
            tells(x, x.from(0, 6, 5), 6);
        });
        says("Terms 2: IN TURN, OWN: even is SIDE 0's", x -> {
            court(x, "n0:0 o3");
            tells(x, x.from(0, 5, 5), 6);
            tells(x, x.from(0, 4, 5), -6);
            tells(x, x.from(0, 0, 0), 6);
        });
        says("Terms 2: IN TURN, FLY: nobody lays", x -> {
            court(x, "n0:0 f3");
            tells(x, x.from(0, 15, 15), 0);
            due(x.answer(0, 5, 9, 5), 0);
            due(x.answer(0, 5, 9, 0), 0);
        });
        says("Terms 2: IN TURN, PILE: fewer than k are none", x -> {
            court(x, "n0:0 p34");
            tells(x, x.from(0, 3, 3), 0);
            tells(x, x.from(0, 4, 3), 6);
            tells(x, x.from(0, 3, 4), -6);
            due(x.answer(0, 3, 4, 0), 4);
            due(x.answer(0, 4, 5, 4), 5);
        });
        says("Terms 2: IN TURN, DAMP: none is less than one", x -> {
            court(x, "n0:0 d39");
            x.damp(9);
            tells(x, x.from(0, 0, 0), 0);
            tells(x, x.from(0, 1, 0), 6);
            tells(x, x.from(0, 1, 2), -6);
        });
        says("Terms 2: IN TURN, HANGING ones as OWN ones then", x -> {
            court(x, "n1:1 s1 h90");
            tells(x, x.from(0, 1, 1), 16);
            due(x.turns(), 0);
            tells(x, x.from(1, 1, 2), -18);
        });
        says("Terms 2: each knows what the other one has yet", x -> {
            court(x, "n0:0 s1 s9");
            tells(x, x.from(0, 1, 1), 0);
            due(x.answer(0, 1, 1, 0), 0);
            tells(x, x.from(0, 2, 1), 16);
        });
    }

    private static void turns() {
        says("25: what SIDE 0 lays on SUIT 0: the fewest of the best", x -> {
            court(x, "n15:0 s3 s1");
            both(x, x.turns(), 1, 8);
            x.stock(1, 3);
            both(x, x.turns(), 4, 8);
            court(x, "n9:3 o3");
            both(x, x.turns(), 3, 6);
        });
        says("25: it goes by SUIT 0, whatever was asked of another one", x -> {
            court(x, "n3:2 o3 f2");
            both(x, x.turns(), 2, 6);
            x.answer(1, 3, 3, 3);
            both(x, x.turns(), 2, 6);
            x.from(1, 3, 3);
            both(x, x.turns(), 2, 6);
        });
        says("25: nothing is of use: none", x -> {
            court(x, "n3:4 s3");
            both(x, x.turns(), 0, -6);
            court(x, "n5:5 f3");
            both(x, x.turns(), 0, 0);
        });
        says("25: STOCKS of 15", x -> {
            court(x, "n15:15 s9");
            both(x, x.turns(), 15, 0);
        });
        says("25: no STOCKS", x -> {
            court(x, "n0:0 s9 o1");
            both(x, x.turns(), 0, 2);
        });
        says("25: six SUITS, all to one SIDE", x -> {
            court(x, "n15:0 s9s9s9s9s9s9");
            both(x, x.turns(), 1, 108);
            x.stock(0, 0);
            x.stock(1, 15);
            both(x, x.turns(), 0, -108);
        });
        says("25: SPENT: a STOCK above 15", x -> {
            court(x, "n16:15 s9");
            refuses(x, SPENT, x::turns);
            x.stock(0, 15);
            x.stock(1, 16);
            refuses(x, SPENT, x::turns);
            x.stock(1, 40);
            x.stock(0, 40);
            refuses(x, SPENT, x::turns);
        });
        says("25: NONE: no SUITS; asked() stays", x -> {
            unchanged(x, NONE, x::turns);
            lay(x, 0, 5);
            x.at(0, 0);
            court(x, "n15:15");
            unchanged(x, NONE, x::turns);
            due(x.asked(), 5);
        });
        says("25: SPENT ahead of NONE", x -> {
            court(x, "n16:0");
            refuses(x, SPENT, x::turns);
        });
    }

    private static void from() {
        says("26: from the last SUIT on, from behind it on", x -> {
            court(x, "n0:0 s3 o2");
            tells(x, x.from(1, 0, 0), 4);
            tells(x, x.from(2, 0, 0), 0);
            tells(x, x.from(2, 15, 15), 0);
        });
        says("26: no SUITS: 0", x -> {
            lay(x, 0, 5);
            x.at(0, 0);
            tells(x, x.from(0, 15, 0), 0);
            refuses(x, BAD, () -> x.from(1, 0, 0));
        });
        says("26: behind the last of six SUITS", x -> {
            court(x, SIX);
            tells(x, x.from(6, 15, 15), 0);
            refuses(x, BAD, () -> x.from(7, 0, 0));
        });
        says("26: 15 against 15, whatever the STOCKS", x -> {
            court(x, "n40:40 o9");
            tells(x, x.from(0, 15, 15), 18);
            tells(x, x.from(0, 14, 15), -18);
            x.stock(0, 0);
            tells(x, x.from(0, 15, 15), 18);
        });
        says("26: below 0 by asked()", x -> {
            court(x, "n0:0 s9s9s9s9s9s9");
            tells(x, x.from(0, 0, 15), -108);
            tells(x, x.from(5, 0, 1), -18);
        });
        says("26: as turns() by the STOCKS", x -> {
            court(x, "n7:6 s3 o2 f1 d43 p24");
            x.turns();
            tells(x, x.from(0, 7, 6), x.asked());
        });
        says("26: BAD: a SUIT below 0, above how many there are", z -> {
            HeavyFiles x = small();
            refuses(x, BAD, () -> x.from(-1, 0, 0), () -> x.from(5, 0, 0), () -> x.from(LOW, 0, 0),
                () -> x.from(HIGH, 0, 0));
        });
        says("26: BAD: SHEETS below 0", z -> {
            HeavyFiles x = small();
            refuses(x, BAD, () -> x.from(0, -1, 0), () -> x.from(0, 0, -1), () -> x.from(4, LOW, 0),
                () -> x.from(0, 0, LOW));
        });
        says("26: BAD: SHEETS above 15", z -> {
            HeavyFiles x = small();
            refuses(x, BAD, () -> x.from(0, 16, 0), () -> x.from(0, 0, 16), () -> x.from(4, HIGH, 0),
                () -> x.from(0, 0, HIGH));
        });
    }

    private static void answer() {
        says("27: what SIDE 1 should lay: the fewest of the best", x -> {
            court(x, "n0:0 s3 o2");
            due(x.answer(1, 2, 4, 2), 3);
            due(x.answer(1, 2, 2, 2), 0);
            due(x.answer(0, 2, 5, 2), 3);
        });
        says("27: of two that are alike the fewer", x -> {
            court(x, "n0:0 s3 s3");
            // to win the first or the second one
            due(x.answer(0, 1, 1, 1), 0);
            due(x.answer(0, 2, 2, 2), 0);
        });
        says("27: none is best, if nothing is of use", x -> {
            court(x, "n0:0 s3");
            due(x.answer(0, 9, 8, 9), 0);
            due(x.answer(0, 9, 9, 9), 9);
            due(x.answer(0, 0, 0, 0), 0);
        });
        says("27: all that SIDE 1 has, 15 against 15", x -> {
            court(x, "n0:0 s3");
            due(x.answer(0, 15, 15, 15), 15);
            due(x.answer(0, 14, 15, 14), 15);
            due(x.answer(0, 15, 15, 0), 1);
        });
        says("27: SIDE 0 has a less x for what comes", x -> {
            court(x, "n0:0 s1 s9");
            // 1 against 3: one may go and the second is won yet; 2 against 3: none may
            due(x.answer(0, 2, 3, 1), 1);
            due(x.answer(0, 2, 3, 0), 0);
        });
        says("27: it tells nothing by asked(), changes nothing", z -> {
            HeavyFiles x = small();
            unchanged(x, 0, () -> x.answer(3, 5, 5, 5));
            unchanged(x, 6, () -> x.answer(3, 5, 6, 5));
        });
        says("27: BAD: a SUIT that there is not (how many there are, too)", z -> {
            HeavyFiles x = small();
            refuses(x, BAD, () -> x.answer(-1, 0, 0, 0), () -> x.answer(4, 0, 0, 0), () -> x.answer(6, 0, 0, 0),
                () -> x.answer(LOW, 0, 0, 0), () -> x.answer(HIGH, 0, 0, 0));
        });
        says("27: BAD: no SUITS", x -> refuses(x, BAD, () -> x.answer(0, 0, 0, 0)));
        says("27: BAD: SHEETS below 0, above 15", z -> {
            HeavyFiles x = small();
            refuses(x, BAD, () -> x.answer(0, -1, 0, -1), () -> x.answer(0, 0, -1, 0), () -> x.answer(0, 16, 0, 0),
                () -> x.answer(0, 0, 16, 0), () -> x.answer(0, HIGH, 0, 0), () -> x.answer(0, 0, LOW, 0));
        });
        says("27: BAD: also x above a", z -> {
            HeavyFiles x = small();
            refuses(x, BAD, () -> x.answer(0, 3, 3, 4), () -> x.answer(0, 0, 3, 1), () -> x.answer(0, 15, 0, 16),
                () -> x.answer(0, 3, 3, HIGH));
            takes(x.answer(0, 3, 3, 3));
        });
        says("27: BAD: x below 0", z -> {
            HeavyFiles x = small();
            refuses(x, BAD, () -> x.answer(0, 3, 3, -1), () -> x.answer(0, 3, 3, LOW));
        });
    }

    private static void lender() {
        says("28: a LENDER has v SHEETS: how many it had", x -> {
            due(x.lender(0, 20), 0);
            due(x.lender(3, 7), 0);
            due(x.lender(0, 0), 20);
            due(x.lender(3, 20), 7);
            due(x.lender(3, 0), 20);
            due(x.lender(1, 1), 0);
            due(x.lender(2, 1), 0);
        });
        says("28: BAD: a LENDER that there is not", x ->
            refuses(x, BAD, () -> x.lender(-1, 1), () -> x.lender(4, 1), () -> x.lender(LOW, 1),
                () -> x.lender(HIGH, 1)));
        says("28: BAD: SHEETS below 0, above 20", x -> {
            x.lender(2, 5);
            refuses(x, BAD, () -> x.lender(2, -1), () -> x.lender(2, 21), () -> x.lender(2, LOW),
                () -> x.lender(2, HIGH));
            due(x.lender(2, 0), 5);
        });
    }

    /** 2 SHEETS make 6, 4 make 10, 6 make 16 against ROW 1. */
    private static HeavyFiles lent(int... all) {
        HeavyFiles x = with("n0:9 o3 o5");
        lay(x, 1, 2, 4);
        for (int l = 0; l < all.length; l++) {
            x.lender(l, all[l]);
        }
        return x;
    }

    private static void lend() {
        says("29: no LENDERS are worth 0", z -> {
            HeavyFiles x = lent(6, 6, 6, 6);
            unchanged(x, 0, () -> x.lend(0, 1));
        });
        says("29: each LENDER by its bit", z -> {
            HeavyFiles x = lent(2, 4, 6, 0);
            unchanged(x, 6, () -> x.lend(1, 1));
            unchanged(x, 10, () -> x.lend(2, 1));
            unchanged(x, 16, () -> x.lend(4, 1));
            unchanged(x, 0, () -> x.lend(8, 1));
        });
        says("29: all LENDERS", z -> {
            HeavyFiles x = lent(1, 1, 1, 3);
            due(x.lend(7, 1), 6);
            due(x.lend(15, 1), 16);
        });
        says("Terms 3: with the STOCK and theirs, less BEST without them", z -> {
            HeavyFiles x = lent(2, 1, 0, 0);
            x.stock(0, 2);
            due(x.lend(1, 1), 4);
            due(x.lend(2, 1), 0);
            due(x.lend(3, 1), 4);
            x.stock(0, 40);
            due(x.lend(4, 1), 0);
        });
        says("29: SPENT: the STOCK and theirs are above 40", z -> {
            HeavyFiles x = lent(20, 1, 0, 0);
            x.stock(0, 20);
            due(x.lend(1, 1), 0);
            refuses(x, SPENT, () -> x.lend(3, 1));
            due(x.lend(2, 1), 0);
            x.stock(0, 21);
            refuses(x, SPENT, () -> x.lend(1, 1), () -> x.lend(15, 1));
            due(x.lend(0, 1), 0);
        });
        says("29: 40 by LENDERS alone", z -> {
            HeavyFiles x = lent(20, 20, 20, 20);
            due(x.lend(3, 1), 16);
            refuses(x, SPENT, () -> x.lend(7, 1), () -> x.lend(15, 1));
        });
        says("29: BAD: a set that there is not", z -> {
            HeavyFiles x = lent(1, 1, 1, 1);
            refuses(x, BAD, () -> x.lend(-1, 1), () -> x.lend(16, 1), () -> x.lend(LOW, 1), () -> x.lend(HIGH, 1));
        });
        says("29: BAD ahead of NOTHING, SPENT", z -> {
            HeavyFiles x = lent(20, 20, 20, 20);
            refuses(x, BAD, () -> x.lend(16, 0), () -> x.lend(15, 6), () -> x.lend(31, 1));
        });
        says("29: NOTHING, SIZE, UNLIKE ahead of SPENT", z -> {
            HeavyFiles x = lent(20, 20, 20, 20);
            finds(x, NOTHING, () -> x.lend(15, 0));
            x.row(0, 3);
            finds(x, SIZE, () -> x.lend(15, 0));
            lay(x, 0, 0, 10);
            finds(x, UNLIKE, () -> x.lend(15, 0));
        });
        says("29: no SUITS: 0", x -> {
            x.row(0, 0);
            x.lender(0, 20);
            due(x.lend(1, 0), 0);
        });
        refusesLayings("29: lend()", 1, (x, r) -> x.lend(3, r));
    }

    private static void leaves() {
        says("30: 0: they come to that, and no set is worth more", z -> {
            HeavyFiles x = lent(4, 2, 0, 0);
            lay(x, 0, 10, 6, 0, 0);
            unchanged(x, 0, () -> x.leaves(1, 0));
        });
        says("30: a set worth as much as its shares does not leave, one worth 1 more does", z -> {
            HeavyFiles x = lent(4, 2, 0, 0);
            lay(x, 0, 9, 7, 0, 0);
            due(x.leaves(1, 0), 1);
            lay(x, 0, 11, 5, 0, 0);
            due(x.leaves(1, 0), 2);
        });
        says("30: the first set (by bits) that is worth more", z -> {
            HeavyFiles x = lent(2, 2, 2, 0);
            lay(x, 0, 0, 0, 0, 16);
            due(x.leaves(1, 0), 1);
            lay(x, 0, 6, 0, 0, 10);
            due(x.leaves(1, 0), 2);
            lay(x, 0, 6, 6, 0, 4);
            due(x.leaves(1, 0), 4);
            HeavyFiles y = lent(1, 1, 2, 0);
            lay(y, 0, 2, 2, 6, 0);
            due(y.leaves(1, 0), 3);
        });
        says("30: the last set of three, ahead of all four", z -> {
            HeavyFiles x = lent(0, 2, 1, 1);
            x.stock(0, 2);
            // any two are worth 4, the three 10
            lay(x, 0, 1, 4, 2, 3);
            due(x.leaves(1, 0), 14);
            lay(x, 0, 0, 4, 3, 3);
            due(x.leaves(1, 0), 0);
        });
        says("30: 15: all are worth more", z -> {
            HeavyFiles x = lent(1, 1, 1, 1);
            x.stock(0, 2);
            // one is worth nothing, two and three 4, four 10
            lay(x, 0, 2, 2, 2, 3);
            due(x.leaves(1, 0), 15);
            lay(x, 0, 2, 2, 2, 4);
            due(x.leaves(1, 0), 0);
        });
        says("30: 15: also if they do not come to that: too much", z -> {
            HeavyFiles x = lent(4, 2, 0, 0);
            lay(x, 0, 10, 7, 0, 0);
            due(x.leaves(1, 0), 15);
            lay(x, 0, 10, 6, 0, 1);
            due(x.leaves(1, 0), 15);
            lay(x, 0, 999, 999, 999, 999);
            due(x.leaves(1, 0), 15);
        });
        says("30: all worth nothing: shares of nothing", z -> {
            HeavyFiles x = lent(0, 0, 0, 0);
            lay(x, 0, 0, 0, 0, 0);
            due(x.leaves(1, 0), 0);
            lay(x, 0, 0, 0, 0, 1);
            due(x.leaves(1, 0), 15);
        });
        says("30: no SUITS", x -> {
            x.row(1, 0);
            lay(x, 0, 0, 0, 0, 0);
            due(x.leaves(1, 0), 0);
        });
        leavesRefused();
        leavesInOrder();
    }

    private static void leavesRefused() {
        says("30: BAD: either", z -> {
            HeavyFiles x = lent(1, 1, 1, 1);
            x.row(0, 4);
            refuses(x, BAD, () -> x.leaves(-1, 0), () -> x.leaves(6, 0), () -> x.leaves(1, -1), () -> x.leaves(1, 6),
                () -> x.leaves(LOW, 0), () -> x.leaves(1, HIGH));
        });
        says("30: BAD ahead of NOTHING", z -> {
            HeavyFiles x = lent(1, 1, 1, 1);
            refuses(x, BAD, () -> x.leaves(5, 6), () -> x.leaves(-1, 5));
        });
        says("30: NOTHING: either", z -> {
            HeavyFiles x = lent(1, 1, 1, 1);
            x.row(0, 4);
            finds(x, NOTHING, () -> x.leaves(5, 0), () -> x.leaves(1, 5), () -> x.leaves(5, 4));
        });
        says("30: SIZE: either: not a number for each of four LENDERS", z -> {
            HeavyFiles x = lent(1, 1, 1, 1);
            for (int n = 0; n <= 6; n++) {
                x.row(0, n);
                if (n != 4) {
                    finds(x, SIZE, () -> x.leaves(1, 0));
                }
            }
        });
        says("30: UNLIKE: either: a share below 0, above 999", z -> {
            int[][] all = {{-1, 0, 0, 0}, {0, 0, 0, -1}, {0, 1000, 0, 0}, {0, 0, 0, 1000}, {LOW, 0, 0, 0},
                {0, 0, HIGH, 0}};
            for (int[] one : all) {
                HeavyFiles x = lent(1, 1, 1, 1);
                lay(x, 0, one);
                finds(x, UNLIKE, () -> x.leaves(1, 0));
            }
        });
        says("30: shares of 0 .. 999 are none of these", z -> {
            HeavyFiles x = lent(1, 1, 1, 1);
            lay(x, 0, 999, 0, 999, 999);
            due(x.leaves(1, 0), 15);
        });
        says("30: SPENT: the STOCK and all theirs are above 40", z -> {
            HeavyFiles x = lent(20, 10, 5, 4);
            lay(x, 0, 16, 0, 0, 0);
            x.stock(0, 1);
            takes(x.leaves(1, 0));
            x.stock(0, 2);
            refuses(x, SPENT, () -> x.leaves(1, 0));
        });
    }

    private static void leavesInOrder() {
        says("30: NOTHING, SIZE, UNLIKE of the LAYING ahead of SPENT", z -> {
            HeavyFiles x = lent(20, 20, 20, 20);
            x.row(0, 4);
            finds(x, NOTHING, () -> x.leaves(5, 0));
            x.row(2, 3);
            finds(x, SIZE, () -> x.leaves(2, 0));
            lay(x, 2, 5, 5);
            finds(x, UNLIKE, () -> x.leaves(2, 0));
        });
        says("30: NOTHING, SIZE, UNLIKE of the shares ahead of SPENT", z -> {
            HeavyFiles x = lent(20, 20, 20, 20);
            finds(x, NOTHING, () -> x.leaves(1, 5));
            x.row(0, 3);
            finds(x, SIZE, () -> x.leaves(1, 0));
            lay(x, 0, 0, 0, 0, -1);
            finds(x, UNLIKE, () -> x.leaves(1, 0));
        });
        says("30: SIZE ahead of UNLIKE of the shares", z -> {
            HeavyFiles x = lent(1, 1, 1, 1);
            lay(x, 0, -1, 0, 0, 0, 0);
            finds(x, SIZE, () -> x.leaves(1, 0));
            lay(x, 0, 1000, 0, 0);
            finds(x, SIZE, () -> x.leaves(1, 0));
        });
        says("30: NOTHING of either ahead of SIZE, UNLIKE of the other one", z -> {
            HeavyFiles x = lent(1, 1, 1, 1);
            x.row(2, 3);
            lay(x, 3, -1, 0, 0, 0);
            lay(x, 4, 5, 5);
            finds(x, NOTHING, () -> x.leaves(5, 2), () -> x.leaves(5, 3), () -> x.leaves(2, 5), () -> x.leaves(4, 5));
        });
        says("30: SIZE of either ahead of UNLIKE of the other one", z -> {
            HeavyFiles x = lent(1, 1, 1, 1);
            x.row(2, 3);
            lay(x, 3, -1, 0, 0, 0);
            lay(x, 4, 5, 5);
            finds(x, SIZE, () -> x.leaves(2, 3), () -> x.leaves(4, 2));
        });
        says("30: without SUITS: NOTHING of the shares ahead of SIZE of the LAYING", z -> {
            HeavyFiles x = new HeavyFiles();
            x.row(0, 1);
            finds(x, NOTHING, () -> x.leaves(0, 1));
        });
        leavesByEveryPair();
        refusesLayings("30: leaves()", 1, (x, r) -> x.leaves(r, 5));
    }

    /** Whatever is wrong with the LAYING and whatever with the shares, the first FINDING that fits either. */
    private static void leavesByEveryPair() {
        int[][] layings = {null, {}, {5}, {5, 5, 5}, {41, -1, 0}, {5, 5}, {-1, 0}, {LOW, HIGH}, {0, 0}, {1, 1}};
        int[][] shares = {null, {}, {1, 1, 1}, {-1, 0, 0}, {0, 0, 0, 0, 1000}, {-1, 0, 0, 0}, {0, 0, 0, 1000},
            {LOW, HIGH, 0, 0}, {0, 0, 0, 0}, {999, 1, 1, 999}};
        for (int[] laying : layings) {
            for (int[] share : shares) {
                int due = laying == null || share == null ? NOTHING
                    : laying.length != 2 || share.length != 4 ? SIZE
                    : laying[0] != laying[1] || laying[0] == 5 || share[0] < 0 || share[3] == 1000 ? UNLIKE : 0;
                String pair = Arrays.toString(laying) + ", " + Arrays.toString(share);
                says("30: NOTHING, SIZE, UNLIKE: either, in this order: " + pair, z -> leavesOne(laying, share, due));
            }
        }
    }

    private static void leavesOne(int[] laying, int[] share, int due) {
        // too much in all in the second one: SPENT, unless something is found
        HeavyFiles[] both = {lent(1, 1, 1, 1), lent(20, 20, 20, 20)};
        for (int k = 0; k < 2; k++) {
            HeavyFiles x = both[k];
            if (laying != null) {
                lay(x, 2, laying);
            }
            if (share != null) {
                lay(x, 3, share);
            }
            if (due != 0) {
                finds(x, due, () -> x.leaves(2, 3));
            } else if (k == 0) {
                takes(x.leaves(2, 3));
            } else {
                refuses(x, SPENT, () -> x.leaves(2, 3));
            }
        }
    }

    private static void adds(HeavyFiles x, int l, int upper, int lower) {
        due(x.adds(l, 1), 1);
        fraction(x, upper, lower);
    }

    private static void adds() {
        says("31: in the mean over all orders: four alike", z -> {
            HeavyFiles x = with("n0:9 o3");
            lay(x, 1, 1);
            for (int l = 0; l < 4; l++) {
                x.lender(l, 1);
            }
            for (int l = 0; l < 4; l++) {
                adds(x, l, 3, 2);
            }
        });
        says("31: one that adds nothing: 0 by 1", z -> {
            HeavyFiles x = lent(2, 2, 2, 0);
            adds(x, 3, 0, 1);
            adds(x, 2, 16, 3);
        });
        says("31: one that adds all", z -> {
            HeavyFiles x = lent(0, 6, 0, 0);
            adds(x, 1, 16, 1);
            adds(x, 0, 0, 1);
        });
        says("31: only the last one to come adds, whoever it is", z -> {
            HeavyFiles x = lent(1, 1, 1, 1);
            x.stock(0, 2);
            // two of them add 4, all four 6 more: 10 by 4
            adds(x, 0, 5, 2);
            adds(x, 3, 5, 2);
        });
        says("31: no SUITS: 0 by 1", x -> {
            x.row(1, 0);
            x.lender(0, 20);
            adds(x, 0, 0, 1);
        });
        says("31: SPENT: the STOCK and all theirs are above 40", z -> {
            HeavyFiles x = lent(20, 10, 5, 4);
            x.stock(0, 1);
            due(x.adds(3, 1), 1);
            x.stock(0, 2);
            refuses(x, SPENT, () -> x.adds(0, 1), () -> x.adds(3, 1));
        });
        says("31: BAD: a LENDER that there is not", z -> {
            HeavyFiles x = lent(1, 1, 1, 1);
            refuses(x, BAD, () -> x.adds(-1, 1), () -> x.adds(4, 1), () -> x.adds(LOW, 1), () -> x.adds(HIGH, 1));
        });
        says("31: BAD ahead of NOTHING, SPENT", z -> {
            HeavyFiles x = lent(20, 20, 20, 20);
            refuses(x, BAD, () -> x.adds(4, 0), () -> x.adds(0, 6), () -> x.adds(-1, 1));
        });
        says("31: NOTHING, SIZE, UNLIKE ahead of SPENT", z -> {
            HeavyFiles x = lent(20, 20, 20, 20);
            finds(x, NOTHING, () -> x.adds(0, 0));
            x.row(0, 3);
            finds(x, SIZE, () -> x.adds(0, 0));
            lay(x, 0, 0, 10);
            finds(x, UNLIKE, () -> x.adds(0, 0));
        });
        says("41: lend(), leaves(), adds() tell nothing by asked()", z -> {
            HeavyFiles x = lent(1, 1, 1, 1);
            lay(x, 0, 7, 0, 0, 0);
            x.at(0, 0);
            x.lend(15, 1);
            x.leaves(1, 0);
            x.adds(0, 1);
            due(x.asked(), 7);
        });
        refusesLayings("31: adds()", 1, (x, r) -> x.adds(1, r));
    }

    public static void main(String[] args) {
        inTurn();
        turns();
        from();
        answer();
        lender();
        lend();
        leaves();
        adds();
        end();
    }
}
