/** The edges of promises 16 to 24, a sentence each: Fridays and layings. */
public final class FridayEdgesTest extends Edges {
    private FridayEdgesTest() {
    }

    /** Who won each SUIT and by how much: pairs, in one Friday of ROWS 0, 1. */
    private static void weighs(HeavyFiles x, int... byAndAbove) {
        for (int i = 0; i < byAndAbove.length; i += 2) {
            both(x, x.who(0, 1, i / 2), byAndAbove[i], byAndAbove[i + 1]);
        }
    }

    private static HeavyFiles friday(String court, int damp, int[] own, int[] other) {
        HeavyFiles x = with(court);
        x.damp(damp);
        lay(x, 0, own);
        lay(x, 1, other);
        return x;
    }

    private static int[] of(int... all) {
        return all;
    }

    private static void weights() {
        says("Terms 1: the WEIGHT is the SHEETS", z ->
            weighs(friday("n9:9 s3 s3 s3", 9, of(5, 0, 1), of(3, 4, 1)), 0, 2, 1, 4, NONE, 0));
        says("Terms 1: in a DAMP one k times the DAMP more", z ->
            weighs(friday("n9:9 d12 d12 d12", 9, of(1, 0, 3), of(0, 2, 3)), 0, 19, 1, 20, NONE, 0));
        says("Terms 1: in a DAMP one nothing more without any SHEETS", z ->
            weighs(friday("n9:9 d19 d19", 9, of(0, 0), of(0, 1)), NONE, 0, 1, 82));
        says("Terms 1: a DAMP of 0 weighs nothing", z ->
            weighs(friday("n9:9 d12 d12", 0, of(1, 0), of(0, 2)), 0, 1, 1, 2));
        says("Terms 1: the greatest WEIGHT in a DAMP one", z -> weighs(friday("n40:40 d19", 9, of(40), of(0)), 0, 121));
        says("Terms 1: in a PILE as in a DAMP one, if they are k or more", z ->
            weighs(friday("n9:9 p14 p14", 2, of(4, 4), of(0, 5)), 0, 12, 1, 1));
        says("Terms 1: in a PILE 0, if they are fewer than k", z ->
            weighs(friday("n9:9 p14 p14 p14", 2, of(3, 3, 0), of(0, 4, 3)), NONE, 0, 1, 12, NONE, 0));
        says("Terms 1: a PILE of 9, of 1", z ->
            weighs(friday("n20:20 p19 p11 p19", 1, of(9, 0, 8), of(8, 1, 9)), 0, 18, 1, 2, 1, 18));
        says("Terms 1: in a HANGING one 2 more for SIDE 0, if it won SUIT j", z ->
            weighs(friday("n9:9 o1 h10 h10", 9, of(0, 0, 1), of(0, 2, 4)), 0, 0, 0, 0, 1, 1));
        says("Terms 1: in a HANGING one 2 more for SIDE 1, if it won SUIT j", z ->
            weighs(friday("n9:9 o1 h10 h10", 9, of(0, 3, 2), of(1, 1, 1)), 1, 1, 0, 0, 1, 1));
        says("Terms 1: in a HANGING one nothing more, if nobody won SUIT j", z ->
            weighs(friday("n9:9 s1 h10 h10", 9, of(2, 2, 3), of(2, 3, 2)), NONE, 0, 1, 1, 0, 1));
        says("Terms 1: in a HANGING one 2 more without SHEETS, too", z ->
            weighs(friday("n9:9 s1 h10 h10", 9, of(1, 0, 0), of(0, 1, 0)), 0, 1, 0, 1, 0, 2));
        says("Terms 1: HANGING on j, not on the SUIT ahead", z ->
            weighs(friday("n9:9 s1 s1 h10 h11", 0, of(1, 0, 0, 0), of(0, 1, 1, 0)), 0, 1, 1, 1, 0, 1, 1, 2));
        says("Terms 1: HANGING on HANGING on FLY", z ->
            weighs(friday("n9:9 f1 h10 h11", 0, of(0, 0, 0), of(1, 1, 1)), 0, 1, 0, 1, 0, 1));
    }

    private static void winners() {
        says("Terms 1: WON by the SIDE of the greater WEIGHT", z ->
            weighs(friday("n9:9 o1 d11 p11 s1", 0, of(1, 1, 1, 1), of(0, 0, 0, 0)), 0, 1, 0, 1, 0, 1, 0, 1));
        says("Terms 1: WON by SIDE 1 by one more", z ->
            weighs(friday("n9:9 o1 d11 p11 h10", 0, of(0, 0, 0, 3), of(1, 1, 1, 2)), 1, 1, 1, 1, 1, 1, 1, 1));
        says("Terms 1: FLY: of the lesser one", z ->
            weighs(friday("n9:9 f1 f1", 0, of(1, 0), of(0, 1)), 1, 1, 0, 1));
        says("Terms 1: if alike by nobody", z -> {
            weighs(friday("n9:9 s1 f1 d11 p12", 3, of(1, 1, 1, 2), of(1, 1, 1, 2)), NONE, 0, NONE, 0, NONE, 0, NONE, 0);
            weighs(friday("n9:9 s1 f1 d11 p12", 3, of(0, 0, 0, 0), of(0, 0, 0, 0)), NONE, 0, NONE, 0, NONE, 0, NONE, 0);
        });
        says("Terms 1: if alike OWN, HANGING by SIDE 0", z -> {
            weighs(friday("n9:9 o1 s1 h11", 0, of(2, 0, 1), of(2, 0, 1)), 0, 0, NONE, 0, 0, 0);
            weighs(friday("n9:9 o1 s1 h11", 0, of(0, 0, 0), of(0, 0, 0)), 0, 0, NONE, 0, 0, 0);
        });
        says("Terms 1: SCORE: twice the WORTH of what it WON, once of what nobody WON", z -> {
            HeavyFiles x = friday("n9:9 s5 s3 s1", 0, of(1, 0, 2), of(0, 1, 2));
            both(x, x.judge(0, 1), 11, 7);
        });
    }

    private static void judge() {
        says("16: no SUITS: 0, 0", x -> {
            x.row(0, 0);
            lay(x, 1, 4);
            x.at(1, 0);
            both(x, x.judge(0, 0), 0, 0);
        });
        says("16: the greatest SCORE, the least one", z -> {
            HeavyFiles x = friday("n6:6 s9 s9 s9 s9 s9 s9", 0, of(1, 1, 1, 1, 1, 1), of(0, 0, 0, 0, 0, 0));
            both(x, x.judge(0, 1), 108, 0);
            both(x, x.judge(1, 0), 0, 108);
        });
        says("16: nobody lays", z -> {
            HeavyFiles x = friday(SIX, 9, of(0, 0, 0, 0, 0, 0), of(0, 0, 0, 0, 0, 0));
            both(x, x.judge(0, 1), 5 + 6 + 2 + 4 + 6 + 18, 5 + 2 + 4 + 6);
        });
        says("16: both lay the same ROW", z -> {
            HeavyFiles x = friday("n3:3 s5 o1", 0, of(1, 2), of(0, 0));
            both(x, x.judge(0, 0), 7, 5);
        });
        says("16: it changes nothing but asked()", z -> {
            HeavyFiles x = friday("n3:3 s5 o1", 0, of(1, 2), of(0, 0));
            long before = x.digest();
            x.judge(0, 1);
            due(x.digest(), before);
            fraction(x, 0, 1);
        });
        refusesLayings("16: judge(), own:", 0, (x, r) -> x.judge(r, 5));
        refusesLayings("16: judge(), other:", 1, (x, r) -> x.judge(5, r));
        refusesPairs("16: judge()", 1, HeavyFiles::judge);
    }

    private interface PairCall {
        int by(HeavyFiles x, int a, int b);
    }

    /** Two LAYINGS, each wrong in another way: the first that fits of NOTHING, SIZE, UNLIKE, either's. */
    private static void refusesPairs(String call, int sideOfSecond, PairCall what) {
        says(call + " BAD ahead of NOTHING", z -> {
            HeavyFiles x = small();
            refuses(x, BAD, () -> what.by(x, 0, 6), () -> what.by(x, -1, 0), () -> what.by(x, -1, 6));
        });
        says(call + " NOTHING: either", z -> {
            HeavyFiles x = small();
            finds(x, NOTHING, () -> what.by(x, 0, 5), () -> what.by(x, 5, 0), () -> what.by(x, 0, 1));
        });
        says(call + " NOTHING of either ahead of SIZE", z -> {
            HeavyFiles x = small();
            x.row(1, 3);
            finds(x, NOTHING, () -> what.by(x, 0, 1), () -> what.by(x, 1, 0));
        });
        says(call + " NOTHING of either ahead of UNLIKE", z -> {
            HeavyFiles x = small();
            lay(x, 1, -1, 0, 0, 0);
            finds(x, NOTHING, () -> what.by(x, 0, 1), () -> what.by(x, 1, 0));
        });
        says(call + " SIZE of either ahead of UNLIKE", z -> {
            HeavyFiles x = small();
            lay(x, 1, -1, 0, 0, 0);
            x.row(2, 5);
            finds(x, SIZE, () -> what.by(x, 1, 2), () -> what.by(x, 2, 1), () -> what.by(x, 2, 2));
        });
        says(call + " each LAYING within the STOCK of its SIDE", z -> {
            HeavyFiles x = small();
            x.stock(0, 3);
            x.stock(1, 6);
            lay(x, 0, 0, 3, 0, 0);
            lay(x, 1, 0, sideOfSecond == 1 ? 6 : 3, 0, 0);
            takes(what.by(x, 0, 1));
            x.lay(0, 0, 1);
            finds(x, UNLIKE, () -> what.by(x, 0, 1));
            x.lay(0, 0, 0);
            x.lay(1, 3, 1);
            finds(x, UNLIKE, () -> what.by(x, 0, 1));
        });
    }

    private static void who() {
        says("17: by whom a SUIT is WON; by how much by asked()", z -> {
            HeavyFiles x = friday("n9:9 s3 s3 s3", 0, of(5, 0, 1), of(3, 4, 1));
            both(x, x.who(0, 1, 0), 0, 2);
            both(x, x.who(0, 1, 1), 1, 4);
        });
        says("17: NONE: nobody; asked() also by NONE: 0", z -> {
            HeavyFiles x = friday("n9:9 s3 s3 s3", 0, of(5, 0, 1), of(3, 4, 1));
            x.who(0, 1, 1);
            both(x, x.who(0, 1, 2), NONE, 0);
        });
        says("17: even WEIGHTS that SIDE 0 WON: 0", z -> {
            HeavyFiles x = friday("n9:9 o3 s1", 0, of(5, 1), of(5, 0));
            x.who(0, 1, 1);
            both(x, x.who(0, 1, 0), 0, 0);
        });
        says("17: BAD: a SUIT that there is not", z -> {
            HeavyFiles x = small();
            refuses(x, BAD, () -> x.who(5, 5, -1), () -> x.who(5, 5, 4), () -> x.who(5, 5, 5), () -> x.who(5, 5, 6),
                () -> x.who(5, 5, LOW), () -> x.who(5, 5, HIGH));
        });
        says("17: BAD: no SUITS", x -> {
            x.row(0, 0);
            refuses(x, BAD, () -> x.who(0, 0, 0));
        });
        says("17: BAD of the SUIT ahead of NOTHING", z -> {
            HeavyFiles x = small();
            refuses(x, BAD, () -> x.who(0, 5, 4), () -> x.who(5, 0, -1));
        });
        refusesLayings("17: who(), own:", 0, (x, r) -> x.who(r, 5, 3));
        refusesLayings("17: who(), other:", 1, (x, r) -> x.who(5, r, 1));
        refusesPairs("17: who()", 1, (x, a, b) -> x.who(a, b, 3));
    }

    private static void best() {
        says("Terms 2: BEST is the greatest SCORE by any LAYING: by all the STOCK", z -> {
            HeavyFiles x = with("n4:4 s3");
            lay(x, 0, 3);
            both(x, x.best(0, 1), 6, 4);
            x.stock(0, 3);
            both(x, x.best(0, 1), 3, 3);
            x.stock(0, 2);
            both(x, x.best(0, 1), 0, 0);
            holds(x, 1, 0);
        });
        says("Terms 2: of such LAYINGS that of the fewest SHEETS", z -> {
            HeavyFiles x = with("n9:9 s3 p24 d59");
            lay(x, 0, 2, 3, 0);
            both(x, x.best(0, 1), 20, 3 + 4 + 1);
            holds(x, 1, 3, 4, 1);
        });
        says("Terms 2: then the first (by SUITS, the fewest first)", z -> {
            HeavyFiles x = with("n1:0 s3 s3 s3");
            lay(x, 0, 0, 0, 0);
            both(x, x.best(0, 1), 12, 1);
            holds(x, 1, 0, 0, 1);
        });
        says("Terms 2: the fewest SHEETS ahead of the first", z -> {
            HeavyFiles x = with("n3:0 s1 p13");
            lay(x, 0, 0, 0);
            // (0, 3) makes 3, too
            both(x, x.best(0, 1), 3, 1);
            holds(x, 1, 1, 0);
        });
        says("18: a FLY takes none", z -> {
            HeavyFiles x = with("n9:1 f4 f4");
            lay(x, 0, 0, 1);
            both(x, x.best(0, 1), 12, 0);
            holds(x, 1, 0, 0);
        });
        says("18: a SUIT that can't be WON, made even", z -> {
            HeavyFiles x = with("n40:40 s3");
            lay(x, 0, 40);
            both(x, x.best(0, 1), 3, 40);
            lay(x, 0, 39);
            both(x, x.best(0, 1), 6, 40);
        });
        says("18: a HANGING one is WON by 2 fewer", z -> {
            HeavyFiles x = with("n3:3 o1 h50");
            lay(x, 0, 1, 2);
            both(x, x.best(0, 1), 12, 1);
            holds(x, 1, 1, 0);
        });
        says("18: a HANGING one, if the other SIDE won SUIT j, if nobody did", z -> {
            HeavyFiles x = with("n3:9 s1 h50");
            lay(x, 0, 5, 1);
            both(x, x.best(0, 1), 10, 3);
            holds(x, 1, 0, 3);
            x.stock(0, 2);
            both(x, x.best(0, 1), 0, 0);
            HeavyFiles y = with("n9:9 f1 h50");
            lay(y, 0, 0, 4);
            both(y, y.best(0, 1), 11, 4);
            holds(y, 1, 0, 4);
        });
        bestRows();
    }

    private static void bestRows() {
        says("18: no STOCK: the LAYING of none", z -> {
            HeavyFiles x = with("n0:9 s3 o2 f1");
            lay(x, 0, 0, 0, 1);
            both(x, x.best(0, 1), 3 + 4 + 2, 0);
            holds(x, 1, 0, 0, 0);
        });
        says("18: no SUITS: 0, a ROW of none", x -> {
            x.row(0, 0);
            lay(x, 1, 4, 5);
            x.at(1, 0);
            both(x, x.best(0, 1), 0, 0);
            holds(x, 1);
        });
        says("18: the LAYING comes to a ROW anew", z -> {
            HeavyFiles x = with("n9:9 s3 s2");
            lay(x, 0, 1, 0);
            lay(x, 1, 9, 9, 9, 9, 9);
            due(x.best(0, 1), 10);
            holds(x, 1, 2, 1);
            due(x.best(0, 3), 10);
            holds(x, 3, 2, 1);
            due(x.count(6), 3);
        });
        says("18: to the ROW of the other LAYING, too", z -> {
            HeavyFiles x = with("n9:9 s3 s2");
            lay(x, 0, 1, 0);
            due(x.best(0, 0), 10);
            holds(x, 0, 2, 1);
        });
        says("18: BAD: the ROW to come to, ahead of NOTHING", z -> {
            HeavyFiles x = small();
            refuses(x, BAD, () -> x.best(5, -1), () -> x.best(5, 6), () -> x.best(0, LOW), () -> x.best(0, HIGH));
        });
        refusesLayings("18: best()", 1, (x, r) -> x.best(r, 4));
    }

    private static void fewest() {
        says("19: v 0: by none; the greatest SCORE by none", z -> {
            HeavyFiles x = with("n9:9 s3 o2 f1");
            lay(x, 0, 0, 0, 1);
            both(x, x.fewest(0, 0), 0, 9);
            lay(x, 0, 1, 1, 0);
            both(x, x.fewest(0, 0), 0, 1);
        });
        says("19: v 108, all that there is", z -> {
            HeavyFiles x = with("n0:40 s9 s9 s9 s9 s9 s9");
            lay(x, 0, 0, 1, 2, 3, 4, 5);
            both(x, x.fewest(0, 108), 21, 108);
        });
        says("19: a SCORE of v or more, one more", z -> {
            HeavyFiles x = with("n0:9 s3 s5");
            lay(x, 0, 2, 4);
            both(x, x.fewest(0, 3), 2, 3);
            both(x, x.fewest(0, 4), 3, 6);
            both(x, x.fewest(0, 6), 3, 6);
            both(x, x.fewest(0, 7), 5, 10);
            both(x, x.fewest(0, 10), 5, 10);
            both(x, x.fewest(0, 11), 7, 13);
        });
        says("19: the greatest SCORE by so many", z -> {
            HeavyFiles x = with("n0:9 s3 s5");
            lay(x, 0, 1, 1);
            both(x, x.fewest(0, 1), 1, 5);
            both(x, x.fewest(0, 6), 2, 10);
        });
        says("19: whatever its STOCK", z -> {
            HeavyFiles x = with("n0:9 s3");
            lay(x, 0, 9);
            both(x, x.fewest(0, 6), 10, 6);
            x.stock(0, 40);
            both(x, x.fewest(0, 6), 10, 6);
        });
        fewestOfAll();
        refusesLayings("19: fewest()", 1, (x, r) -> x.fewest(r, 3));
    }

    private static void fewestOfAll() {
        says("19: NONE: by none: more than all WORTHS", z -> {
            HeavyFiles x = with("n40:9 s3 s5");
            lay(x, 0, 2, 4);
            x.fewest(0, 16);
            unchanged(x, NONE, () -> x.fewest(0, 17), () -> x.fewest(0, 108));
            due(x.asked(), 16);
        });
        says("19: 40 for each SUIT at most", z -> {
            HeavyFiles x = with("n40:40 s3 o2 s1");
            lay(x, 0, 40, 0, 0);
            both(x, x.fewest(0, 9), 41, 9);
            unchanged(x, NONE, () -> x.fewest(0, 10));
            lay(x, 0, 0, 40, 0);
            both(x, x.fewest(0, 12), 42, 12);
        });
        says("19: 40 for each SUIT, more than 40 together", z -> {
            HeavyFiles x = with("n0:40 s3 p99 p99 p99 p99 p99");
            lay(x, 0, 39, 1, 0, 0, 0, 0);
            both(x, x.fewest(0, 96), 40 + 45, 96);
        });
        says("19: no SUITS", x -> {
            x.row(0, 0);
            both(x, x.fewest(0, 0), 0, 0);
            unchanged(x, NONE, () -> x.fewest(0, 1), () -> x.fewest(0, 108));
        });
        says("19: BAD: v below 0, above 108", z -> {
            HeavyFiles x = small();
            refuses(x, BAD, () -> x.fewest(5, -1), () -> x.fewest(5, 109), () -> x.fewest(5, LOW),
                () -> x.fewest(5, HIGH));
        });
        says("19: BAD ahead of NOTHING", z -> {
            HeavyFiles x = small();
            refuses(x, BAD, () -> x.fewest(0, -1), () -> x.fewest(0, 109));
        });
    }

    private static void ways(HeavyFiles x, int v, int ways, int upper, int lower) {
        due(x.ways(0, v), ways);
        fraction(x, upper, lower);
    }

    private static void ways() {
        says("20: v 0: all LAYINGS, 1 by 1", z -> {
            HeavyFiles x = with("n2:3 s1 s2");
            lay(x, 0, 1, 1);
            ways(x, 0, 6, 1, 1);
        });
        says("20: in how many LAYINGS a SCORE of v or more, one more", z -> {
            HeavyFiles x = with("n2:3 s1 s2");
            lay(x, 0, 1, 1);
            // (0,0) 0 (0,1) 2 (0,2) 4 (1,0) 1 (1,1) 3 (2,0) 2
            ways(x, 1, 5, 5, 6);
            ways(x, 2, 4, 2, 3);
            ways(x, 3, 2, 1, 3);
            ways(x, 4, 1, 1, 6);
        });
        says("20: none: 0 by 1", z -> {
            HeavyFiles x = with("n2:3 s1 s2");
            lay(x, 0, 1, 1);
            ways(x, 5, 0, 0, 1);
            ways(x, 108, 0, 0, 1);
        });
        says("20: no STOCK: a single LAYING", z -> {
            HeavyFiles x = with("n0:3 s1 s2");
            lay(x, 0, 1, 0);
            ways(x, 2, 1, 1, 1);
            ways(x, 3, 0, 0, 1);
        });
        says("20: a single SUIT", z -> {
            HeavyFiles x = with("n12:0 s1");
            lay(x, 0, 0);
            ways(x, 2, 12, 12, 13);
        });
        says("20: no SUITS: a single LAYING", x -> {
            x.row(0, 0);
            x.stock(0, 12);
            ways(x, 0, 1, 1, 1);
            ways(x, 1, 0, 0, 1);
        });
        says("20: six SUITS, a STOCK of 12", z -> {
            HeavyFiles x = with("n12:40 o9 o9 o9 o9 o9 o9");
            lay(x, 0, 0, 0, 0, 0, 0, 12);
            ways(x, 0, 18564, 1, 1);
            ways(x, 108, 1, 1, 18564);
        });
        waysRefused();
    }

    private static void waysRefused() {
        says("20: SPENT: its STOCK is above 12", z -> {
            HeavyFiles x = with("n13:40 s1");
            lay(x, 0, 40);
            refuses(x, SPENT, () -> x.ways(0, 0));
            x.stock(0, 40);
            refuses(x, SPENT, () -> x.ways(0, 1));
            x.stock(0, 12);
            ways(x, 0, 13, 1, 1);
        });
        says("20: BAD: v below 0, above 108", z -> {
            HeavyFiles x = small();
            refuses(x, BAD, () -> x.ways(5, -1), () -> x.ways(5, 109), () -> x.ways(5, LOW), () -> x.ways(5, HIGH));
        });
        says("20: BAD ahead of SPENT", z -> {
            HeavyFiles x = small();
            x.stock(0, 13);
            refuses(x, BAD, () -> x.ways(5, 109), () -> x.ways(6, 1), () -> x.ways(-1, 1));
        });
        says("20: SPENT ahead of NOTHING, SIZE, UNLIKE", z -> {
            HeavyFiles x = small();
            x.stock(0, 13);
            x.row(1, 3);
            lay(x, 2, -1, 0, 0, 0);
            refuses(x, SPENT, () -> x.ways(0, 1), () -> x.ways(1, 1), () -> x.ways(2, 1));
        });
        says("41: ways() tells nothing by asked()", z -> {
            HeavyFiles x = small();
            lay(x, 0, 1, 0, 0, 0);
            x.at(0, 0);
            due(x.ways(5, 0), 715);
            due(x.asked(), 1);
        });
        refusesLayings("20: ways()", 1, (x, r) -> x.ways(r, 3));
    }

    private static void sure() {
        says("Terms 2: SURE is the least SCORE against any LAYING", z -> {
            HeavyFiles x = with("n3:1 s5 s3");
            lay(x, 0, 1, 0);
            unchanged(x, 8, () -> x.sure(0));
        });
        says("21: SIDE 1 has no STOCK", z -> {
            HeavyFiles x = with("n3:0 s5 s3");
            lay(x, 0, 0, 0);
            due(x.sure(0), 8);
            lay(x, 0, 1, 0);
            due(x.sure(0), 13);
        });
        says("21: SIDE 1 need not lay all", z -> {
            HeavyFiles x = with("n3:3 f5");
            lay(x, 0, 0);
            due(x.sure(0), 5);
            lay(x, 0, 1);
            due(x.sure(0), 0);
        });
        says("21: the greatest STOCKS", z -> {
            HeavyFiles x = with("n40:40 s9");
            lay(x, 0, 40);
            due(x.sure(0), 9);
            x.stock(1, 39);
            due(x.sure(0), 18);
            lay(x, 0, 39);
            due(x.sure(0), 9);
        });
        says("21: SIDE 1 may win a SUIT for what hangs on it", z -> {
            HeavyFiles x = with("n9:3 s1 h90");
            lay(x, 0, 0, 3);
            // (1, 2) makes the h 3 against 4
            due(x.sure(0), 0);
            x.stock(1, 2);
            due(x.sure(0), 18);
        });
        says("21: no SUITS: 0", x -> {
            x.row(0, 0);
            due(x.sure(0), 0);
        });
        refusesLayings("21: sure()", 0, HeavyFiles::sure);
    }

    private static void safe() {
        says("22: the greatest SURE; the first such LAYING (by SUITS, the fewest first)", z -> {
            HeavyFiles x = with("n1:1 s3 s3");
            due(x.safe(1), 6);
            holds(x, 1, 0, 1);
        });
        says("22: fewer SHEETS do not go ahead of the first", z -> {
            HeavyFiles x = with("n3:0 s1 p13");
            // (1, 0) is sure of 3, too
            due(x.safe(1), 3);
            holds(x, 1, 0, 3);
        });
        says("22: its STOCK 10, that of SIDE 1 40", z -> {
            HeavyFiles x = with("n10:40 s9");
            due(x.safe(1), 0);
            holds(x, 1, 0);
            x.stock(1, 9);
            due(x.safe(1), 18);
            holds(x, 1, 10);
        });
        says("22: 4 SUITS", z -> {
            HeavyFiles x = with("n10:0 s1 s2 s3 s4");
            due(x.safe(1), 20);
            holds(x, 1, 1, 1, 1, 1);
        });
        says("22: no STOCK", z -> {
            HeavyFiles x = with("n0:1 s3 f2");
            due(x.safe(1), 2);
            holds(x, 1, 0, 0);
        });
        says("22: no SUITS: 0, a ROW of none", x -> {
            lay(x, 1, 4);
            due(x.safe(1), 0);
            holds(x, 1);
        });
        says("22: the LAYING comes to a ROW anew", z -> {
            HeavyFiles x = with("n1:0 s3");
            lay(x, 1, 9, 9, 9);
            due(x.safe(1), 6);
            holds(x, 1, 1);
        });
        safeRefused();
    }

    private static void safeRefused() {
        says("22: SPENT: its STOCK is above 10", z -> {
            HeavyFiles x = with("n11:0 s1");
            refuses(x, SPENT, () -> x.safe(1));
            x.stock(0, 10);
            takes(x.safe(1));
        });
        says("22: SPENT: more than 4 SUITS", z -> {
            HeavyFiles x = with("n0:0 s1s1s1s1s1");
            refuses(x, SPENT, () -> x.safe(1));
        });
        says("22: BAD", z -> {
            HeavyFiles x = small();
            refuses(x, BAD, () -> x.safe(-1), () -> x.safe(6), () -> x.safe(LOW), () -> x.safe(HIGH));
        });
        says("22: BAD ahead of SPENT", z -> {
            HeavyFiles x = small();
            x.stock(0, 11);
            refuses(x, BAD, () -> x.safe(-1), () -> x.safe(6));
        });
        says("41: safe(), sure() tell nothing by asked()", z -> {
            HeavyFiles x = small();
            lay(x, 0, 1, 0, 0, 0);
            x.at(0, 0);
            x.safe(1);
            x.sure(0);
            due(x.asked(), 1);
        });
    }

    /** LAYINGS (2, 0) and (0, 2): 9, 9 against none; 9, 6 and 6, 9 against one SHEET. */
    private static HeavyFiles two() {
        HeavyFiles x = with("n2:1 s3 s3");
        lay(x, 0, 2, 0);
        lay(x, 1, 0, 2);
        return x;
    }

    private static void mixed() {
        says("23: the least mean SCORE", z -> {
            HeavyFiles x = two();
            due(x.mixed(0, 1, 1, 3), 1);
            fraction(x, 7, 1);
            due(x.mixed(0, 1, 2, 3), 1);
            fraction(x, 7, 1);
        });
        says("23: in lowest terms", z -> {
            HeavyFiles x = two();
            due(x.mixed(0, 1, 1, 2), 1);
            fraction(x, 15, 2);
            due(x.mixed(0, 1, 49, 98), 1);
            fraction(x, 15, 2);
        });
        says("23: p 0: the second alone; p q: the first alone", z -> {
            HeavyFiles x = with("n2:1 o3 s1");
            lay(x, 0, 1, 0);
            lay(x, 1, 0, 0);
            due(x.mixed(0, 1, 0, 7), 1);
            fraction(x, 1, 1);
            due(x.mixed(0, 1, 7, 7), 1);
            fraction(x, 6, 1);
        });
        says("23: q 1 and q 99", z -> {
            HeavyFiles x = two();
            due(x.mixed(0, 1, 0, 1), 1);
            fraction(x, 6, 1);
            due(x.mixed(0, 1, 1, 99), 1);
            fraction(x, 199, 33);
            due(x.mixed(0, 1, 98, 99), 1);
            fraction(x, 199, 33);
        });
        says("23: nothing: 0 by 1", z -> {
            HeavyFiles x = with("n0:1 s3");
            x.row(0, 1);
            due(x.mixed(0, 0, 1, 3), 1);
            fraction(x, 0, 1);
        });
        says("23: no SUITS: 0 by 1", x -> {
            x.row(0, 0);
            due(x.mixed(0, 0, 1, 2), 1);
            fraction(x, 0, 1);
        });
        says("23: both the same", z -> {
            HeavyFiles x = two();
            due(x.mixed(0, 0, 1, 2), 1);
            fraction(x, 6, 1);
        });
        says("23: the STOCK of SIDE 1 10, of SIDE 0 40; 4 SUITS", z -> {
            HeavyFiles x = with("n40:10 s1 s1 s1 s1");
            lay(x, 0, 10, 10, 10, 10);
            lay(x, 1, 11, 11, 11, 7);
            due(x.mixed(0, 1, 0, 1), 1);
            fraction(x, 6, 1);
            due(x.mixed(0, 1, 1, 1), 1);
            fraction(x, 7, 1);
        });
        mixedRefused();
    }

    private static void mixedRefused() {
        says("23: BAD: q below 1, above 99", z -> {
            HeavyFiles x = two();
            refuses(x, BAD, () -> x.mixed(0, 1, 0, 0), () -> x.mixed(0, 1, 0, 100), () -> x.mixed(0, 1, -1, -1),
                () -> x.mixed(0, 1, 0, LOW), () -> x.mixed(0, 1, 0, HIGH));
        });
        says("23: BAD: p below 0, above q", z -> {
            HeavyFiles x = two();
            refuses(x, BAD, () -> x.mixed(0, 1, -1, 5), () -> x.mixed(0, 1, 6, 5), () -> x.mixed(0, 1, LOW, 5),
                () -> x.mixed(0, 1, HIGH, 5), () -> x.mixed(0, 1, 100, 99));
        });
        says("23: BAD ahead of SPENT", z -> {
            HeavyFiles x = two();
            x.stock(1, 11);
            refuses(x, BAD, () -> x.mixed(6, 1, 0, 1), () -> x.mixed(0, -1, 0, 1), () -> x.mixed(0, 1, 0, 0),
                () -> x.mixed(0, 1, 2, 1));
        });
        says("23: SPENT: the STOCK of SIDE 1 is above 10", z -> {
            HeavyFiles x = two();
            x.stock(1, 11);
            refuses(x, SPENT, () -> x.mixed(0, 1, 1, 2));
            x.stock(1, 10);
            takes(x.mixed(0, 1, 1, 2));
        });
        says("23: SPENT: more than 4 SUITS", z -> {
            HeavyFiles x = with("n0:0 s1s1s1s1s1");
            x.row(0, 5);
            refuses(x, SPENT, () -> x.mixed(0, 0, 1, 2));
        });
        says("23: SPENT ahead of NOTHING, SIZE, UNLIKE", z -> {
            HeavyFiles x = two();
            x.stock(1, 11);
            x.row(2, 1);
            lay(x, 3, 3, 0);
            refuses(x, SPENT, () -> x.mixed(5, 0, 1, 2), () -> x.mixed(0, 2, 1, 2), () -> x.mixed(3, 0, 1, 2));
        });
        refusesLayings("23: mixed(), the first:", 0, (x, r) -> x.mixed(r, 5, 1, 2));
        refusesLayings("23: mixed(), the second:", 0, (x, r) -> x.mixed(5, r, 1, 2));
        refusesPairs("23: mixed()", 0, (x, a, b) -> x.mixed(a, b, 1, 2));
    }

    private static void mix() {
        says("24: the p of 12 by which the least mean SCORE is greatest; that, in lowest terms", z -> {
            HeavyFiles x = two();
            due(x.mix(0, 1), 6);
            fraction(x, 15, 2);
        });
        says("24: the least p of those alike", z -> {
            HeavyFiles x = two();
            due(x.mix(0, 0), 0);
            fraction(x, 6, 1);
        });
        says("24: p 0, p 12", z -> {
            HeavyFiles x = with("n2:1 o3");
            lay(x, 0, 1);
            lay(x, 1, 0);
            due(x.mix(0, 1), 12);
            fraction(x, 6, 1);
            due(x.mix(1, 0), 0);
            fraction(x, 6, 1);
        });
        says("24: p 1, p 11", z -> {
            HeavyFiles x = with("n4:1 o7 f1 o1");
            lay(x, 0, 0, 0, 0);
            lay(x, 1, 1, 2, 0);
            // against none 17, 16; one on the first 3, 16; on the last 15, 14
            due(x.mix(0, 1), 1);
            fraction(x, 169, 12);
            due(x.mix(1, 0), 11);
            fraction(x, 169, 12);
        });
        says("24: no SUITS: 0; 0 by 1", x -> {
            x.row(0, 0);
            due(x.mix(0, 0), 0);
            fraction(x, 0, 1);
        });
        says("24: BAD ahead of SPENT", z -> {
            HeavyFiles x = two();
            x.stock(1, 11);
            refuses(x, BAD, () -> x.mix(6, 1), () -> x.mix(-1, 1), () -> x.mix(0, LOW), () -> x.mix(0, HIGH));
        });
        says("24: SPENT: the STOCK of SIDE 1 is above 10", z -> {
            HeavyFiles x = two();
            x.stock(0, 40);
            x.stock(1, 11);
            refuses(x, SPENT, () -> x.mix(0, 1));
            x.stock(1, 10);
            takes(x.mix(0, 1));
        });
        says("24: SPENT: more than 4 SUITS", z -> {
            HeavyFiles x = with("n0:0 s1s1s1s1s1");
            x.row(0, 5);
            refuses(x, SPENT, () -> x.mix(0, 0));
        });
        says("24: SPENT ahead of NOTHING, SIZE, UNLIKE", z -> {
            HeavyFiles x = two();
            x.stock(1, 11);
            x.row(2, 1);
            lay(x, 3, 3, 0);
            refuses(x, SPENT, () -> x.mix(5, 0), () -> x.mix(0, 2), () -> x.mix(3, 0));
        });
        says("41: mix(), mixed() tell nothing by asked()", z -> {
            HeavyFiles x = two();
            x.at(0, 0);
            x.mixed(0, 1, 1, 2);
            x.mix(0, 1);
            due(x.asked(), 2);
        });
        refusesLayings("24: mix(), the first:", 0, (x, r) -> x.mix(r, 5));
        refusesLayings("24: mix(), the second:", 0, (x, r) -> x.mix(5, r));
        refusesPairs("24: mix()", 0, HeavyFiles::mix);
    }

    public static void main(String[] args) {
        weights();
        winners();
        judge();
        who();
        best();
        fewest();
        ways();
        sure();
        safe();
        mixed();
        mix();
        end();
    }
}
