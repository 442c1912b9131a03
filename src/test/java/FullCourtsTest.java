import java.util.Arrays;
import java.util.Random;

/**
 * Courts of up to six SUITS and 40 SHEETS, held against what SHEET by SHEET comes out for each way in which the SUITS
 * may be WON: for the calls that PlainFiles is too slow for at that size.
 */
public final class FullCourtsTest {
    private static final String LETTERS = "sofdph";
    private static final int NEVER = 1_000_000;
    private static int checks;
    private static int wrong;

    private final Random random;
    private final HeavyFiles x = new HeavyFiles();
    private final int size;
    private final char[] letters;
    private final int[] worths;
    private final int[] figures;
    private final int[] stocks;
    private final int damp;
    private final String text;
    // by each way to be WON, three to a SUIT: the fewest SHEETS of a SIDE, and what it lays
    private int[] fewest;
    private int[][] laid;

    private FullCourtsTest(Random random, int size, int own, int other) {
        this.random = random;
        this.size = size;
        stocks = new int[] {own, other};
        damp = random.nextInt(10);
        letters = new char[size];
        worths = new int[size];
        figures = new int[size];
        StringBuilder all = new StringBuilder("n" + own + ":" + other);
        for (int i = 0; i < size; i++) {
            letters[i] = LETTERS.charAt(random.nextInt(i == 0 ? 5 : 6));
            worths[i] = 1 + random.nextInt(9);
            figures[i] = letters[i] == 'h' ? random.nextInt(i) : 1 + random.nextInt(9);
            all.append(letters[i]).append(worths[i]).append("dph".indexOf(letters[i]) < 0 ? "" : figures[i]);
        }
        text = all.toString();
        x.text(0, text.length());
        for (int i = 0; i < text.length(); i++) {
            x.put(0, i, text.charAt(i));
        }
        due("court", x.court(0), size);
        due("damp", x.damp(damp), 0);
    }

    private void due(String call, long got, long want) {
        checks++;
        if (got != want) {
            wrong++;
            System.out.println(text + " damp " + damp + ": " + call + " answered " + got + ", due is " + want);
        }
    }

    private static int digit(int way, int i) {
        for (int k = 0; k < i; k++) {
            way /= 3;
        }
        return way % 3;
    }

    private int weight(int i, int sheets, int side, int way) {
        if (letters[i] == 'h') {
            return sheets + (digit(way, figures[i]) == side ? 2 : 0);
        }
        int least = letters[i] == 'd' ? 1 : letters[i] == 'p' ? figures[i] : 0;
        return least == 0 ? sheets : sheets < least ? 0 : sheets + figures[i] * damp;
    }

    /** 0, 1, or 2 for nobody. */
    private int winner(int i, int[] sheets, int way) {
        int apart = weight(i, sheets[0], 0, way) - weight(i, sheets[1], 1, way);
        if (apart == 0) {
            return letters[i] == 'o' || letters[i] == 'h' ? 0 : 2;
        }
        return apart > 0 == (letters[i] != 'f') ? 0 : 1;
    }

    private void tryAll(int side, int[] against) {
        int ways = 1;
        fewest = new int[] {0};
        laid = new int[][] {new int[size]};
        for (int i = 0; i < size; i++, ways *= 3) {
            int[] before = fewest;
            int[][] laidBefore = laid;
            fewest = new int[3 * ways];
            laid = new int[3 * ways][];
            Arrays.fill(fewest, NEVER);
            for (int way = 0; way < ways; way++) {
                for (int v = 0; v <= 40 && before[way] < NEVER; v++) {
                    int by = winner(i, side == 0 ? new int[] {v, against[i]} : new int[] {against[i], v}, way);
                    int next = way + by * ways;
                    if (before[way] + v < fewest[next]) {
                        fewest[next] = before[way] + v;
                        laid[next] = laidBefore[way].clone();
                        laid[next][i] = v;
                    }
                }
            }
        }
    }

    private int score(int way) {
        int all = 0;
        for (int i = 0; i < size; i++) {
            all += digit(way, i) == 0 ? 2 * worths[i] : digit(way, i) == 2 ? worths[i] : 0;
        }
        return all;
    }

    private int most(int stock) {
        int most = -1;
        for (int way = 0; way < fewest.length; way++) {
            most = fewest[way] <= stock ? Math.max(most, score(way)) : most;
        }
        return most;
    }

    private int least(int stock) {
        int least = NEVER;
        for (int way = 0; way < fewest.length; way++) {
            least = fewest[way] <= stock ? Math.min(least, score(way)) : least;
        }
        return least;
    }

    /** The way by which BEST is had: of the fewest SHEETS, then the first by SUITS. */
    private int bestWay(int stock) {
        int best = -1;
        for (int way = 0; way < fewest.length; way++) {
            if (fewest[way] <= stock && score(way) == most(stock) && (best < 0 || fewest[way] < fewest[best]
                || fewest[way] == fewest[best] && Arrays.compare(laid[way], laid[best]) < 0)) {
                best = way;
            }
        }
        return best;
    }

    private int[] layAny(int r, int stock) {
        int[] laying = new int[size];
        int left = random.nextBoolean() ? stock : random.nextInt(stock + 1);
        for (int n = 0; n < 4 * size && left > 0; n++) {
            int v = n == 4 * size - 1 ? left : random.nextInt(left + 1) / (1 + random.nextInt(3));
            laying[random.nextInt(size)] += v;
            left -= v;
        }
        x.row(r, size);
        for (int i = 0; i < size; i++) {
            x.lay(r, i, laying[i]);
        }
        return laying;
    }

    private void told(int r, String call, int[] laying) {
        for (int i = 0; i < size; i++) {
            x.at(r, i);
            due(call + " on SUIT " + i, x.asked(), laying[i]);
        }
    }

    private void best() {
        int way = bestWay(stocks[0]);
        due("best", x.best(1, 2), score(way));
        due("best: SHEETS", x.asked(), fewest[way]);
        told(2, "best", laid[way]);
        due("when", x.when(1), 0);
        due("when: BEST", x.asked(), score(way));
    }

    private void fewest(int v) {
        int due = NEVER;
        for (int way = 0; way < fewest.length; way++) {
            due = score(way) >= v ? Math.min(due, fewest[way]) : due;
        }
        due("fewest " + v, x.fewest(1, v), due == NEVER ? -9 : due);
        if (due < NEVER) {
            due("fewest: SCORE " + v, x.asked(), most(due));
        }
    }

    private int worth(int[] lent, int set) {
        int all = stocks[0];
        for (int l = 0; l < 4; l++) {
            all += (set >> l & 1) * lent[l];
        }
        return all > 40 ? NEVER : most(all) - most(stocks[0]);
    }

    private void lenders() {
        int[] lent = new int[4];
        for (int l = 0; l < 4; l++) {
            lent[l] = random.nextInt(random.nextInt(4) == 0 ? 21 : 1 + (40 - stocks[0]) / 4);
            x.lender(l, lent[l]);
        }
        for (int set = 0; set < 16; set++) {
            due("lend " + set, x.lend(set, 1), worth(lent, set) == NEVER ? -6 : worth(lent, set));
        }
        boolean isSpent = worth(lent, 15) == NEVER;
        for (int l = 0; l < 4; l++) {
            int all = 0;
            for (int order = 0; order < 256; order++) {
                int[] place = {order & 3, order >> 2 & 3, order >> 4 & 3, order >> 6};
                int ahead = 0;
                int seen = 0;
                for (int k = 0; k < 4; k++) {
                    seen |= 1 << place[k];
                    ahead |= place[k] < place[l] ? 1 << k : 0;
                }
                all += seen == 15 && !isSpent ? worth(lent, ahead | 1 << l) - worth(lent, ahead) : 0;
            }
            due("adds " + l, x.adds(l, 1), isSpent ? -6 : 1);
            due("adds: by 24 " + l, isSpent ? 0 : x.upper() * 24, all * x.lower());
        }
        if (!isSpent) {
            leaves(lent);
        }
    }

    private void leaves(int[] lent) {
        for (int n = 0; n < 4; n++) {
            int[] shares = new int[4];
            int left = worth(lent, 15) + (n == 3 ? random.nextInt(3) - 1 : 0);
            x.row(3, 4);
            for (int l = 0; l < 4; l++) {
                shares[l] = Math.max(0, l == 3 ? left : random.nextInt(Math.max(left, 0) + 1));
                left -= shares[l];
                x.lay(3, l, shares[l]);
            }
            int due = 0;
            for (int set = 1; set < 16 && due == 0; set++) {
                int theirs = 0;
                for (int l = 0; l < 4; l++) {
                    theirs += (set >> l & 1) * shares[l];
                }
                due = worth(lent, set) > theirs || set == 15 && worth(lent, set) != theirs ? set : 0;
            }
            due("leaves " + Arrays.toString(shares), x.leaves(1, 3), due);
        }
    }

    private void safe() {
        int[] laying = new int[size];
        int[] first = new int[size];
        int most = -1;
        int i = 0;
        while (i >= 0) {
            tryAll(1, laying);
            if (least(stocks[1]) > most) {
                most = least(stocks[1]);
                first = laying.clone();
            }
            i = size - 1;
            laying[i]++;
            while (i >= 0 && Arrays.stream(laying).sum() > stocks[0]) {
                laying[i--] = 0;
                if (i >= 0) {
                    laying[i]++;
                }
            }
        }
        due("safe", x.safe(5), most);
        told(5, "safe", first);
    }

    private void ask() {
        int[] own = layAny(0, stocks[0]);
        int[] other = layAny(1, stocks[1]);
        tryAll(1, own);
        due("sure", x.sure(0), least(stocks[1]));
        tryAll(0, other);
        best();
        for (int v = 0; v <= 108; v += 1 + random.nextInt(6)) {
            fewest(v);
        }
        lenders();
    }

    public static void main(String[] args) {
        Random random = new Random(Integer.getInteger("first", 11));
        int runs = Integer.getInteger("runs", 60);
        for (int n = 0; n < runs; n++) {
            new FullCourtsTest(random, 4 + random.nextInt(3), random.nextInt(41), random.nextInt(41)).ask();
            new FullCourtsTest(random, 6, 40, 40).ask();
            new FullCourtsTest(random, 6, random.nextInt(12), 20 + random.nextInt(21)).ask();
        }
        for (int n = 0; n < runs / 6; n++) {
            new FullCourtsTest(random, 4, 10, random.nextInt(41)).safe();
        }
        System.out.println(checks + " answers, " + wrong + " not as due");
        if (wrong != 0) {
            System.exit(1);
        }
    }
}
