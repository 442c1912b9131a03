import java.util.ArrayList;
import java.util.Arrays;
import java.util.HashMap;
import java.util.HashSet;
import java.util.List;
import java.util.Map;
import java.util.Set;
import java.util.function.Consumer;

/** The document told once more, by trying everything: slow, for small courts, to hold HeavyFiles against. */
final class PlainFiles {
    private static final class Refused extends RuntimeException {
        final int answer;
        final int finding;

        Refused(int answer, int finding) {
            super(null, null, false, false);
            this.answer = answer;
            this.finding = finding;
        }
    }

    private interface Call {
        int answer();
    }

    private record PlainSuit(char letter, int worth, int figure) {
        int kind() {
            return "sofdph".indexOf(letter);
        }
    }

    private record PlainNote(int[] laid, int won) {
    }

    private record Friday(int[] winner, int[] apart, int own, int other) {
        int won() {
            int set = 0;
            for (int i = 0; i < winner.length; i++) {
                if (winner[i] == 0) {
                    set |= 1 << i;
                }
            }
            return set;
        }
    }

    private record PlainCourt(List<PlainSuit> suits, int[] stocks, int damp, int[] lent, List<PlainNote> notes) {
    }

    private static final int NONE = -9;
    private final int[][] rows = new int[6][];
    private final int[][] texts = new int[4][];
    private List<PlainSuit> suits = new ArrayList<>();
    private int[] stocks = new int[2];
    private int damp;
    private int[] lent = new int[4];
    private List<PlainNote> notes = new ArrayList<>();
    private final PlainCourt[] kept = new PlainCourt[3];
    private int asked;
    private long upper;
    private long lower = 1;
    private int finding;
    private final int[] found = new int[6];

    private int call(Call call) {
        try {
            return call.answer();
        } catch (Refused refused) {
            if (refused.finding > 0) {
                finding = refused.finding;
                found[finding]++;
            }
            return refused.answer;
        }
    }

    private static void bad(boolean isBad) {
        if (isBad) {
            throw new Refused(-1, 0);
        }
    }

    private static void refuse(boolean isSo, int answer) {
        if (isSo) {
            throw new Refused(answer, 0);
        }
    }

    private static void find(boolean isSo, int finding) {
        if (isSo) {
            throw new Refused(-3, finding);
        }
    }

    private static void badRow(int... all) {
        for (int r : all) {
            bad(r < 0 || r > 5);
        }
    }

    private void laying(int r, int side) {
        layings(r, side, r, side);
    }

    private void layings(int r, int sideR, int s, int sideS) {
        find(rows[r] == null || rows[s] == null, 1);
        find(rows[r].length != suits.size() || rows[s].length != suits.size(), 5);
        find(!isLaying(rows[r], sideR) || !isLaying(rows[s], sideS), 3);
    }

    private boolean isLaying(int[] row, int side) {
        long all = 0;
        for (int v : row) {
            if (v < 0 || v > 40) {
                return false;
            }
            all += v;
        }
        return all <= stocks[side];
    }

    private void fraction(long up, long low) {
        for (long d = Math.max(low, Math.abs(up)); d >= 1; d--) {
            if (up % d == 0 && low % d == 0) {
                upper = up / d;
                lower = low / d;
                return;
            }
        }
    }

    private int told(int v) {
        asked = v;
        return 1;
    }

    // ---- a Friday

    private static int weigh(PlainSuit suit, int sheets, int damp, boolean wonAhead) {
        switch (suit.letter) {
            case 'd':
                return sheets == 0 ? 0 : sheets + suit.figure * damp;
            case 'p':
                return sheets < suit.figure ? 0 : sheets + suit.figure * damp;
            case 'h':
                return wonAhead ? sheets + 2 : sheets;
            default:
                return sheets;
        }
    }

    private static int winner(PlainSuit suit, int w0, int w1) {
        if (w0 == w1) {
            return suit.letter == 'o' || suit.letter == 'h' ? 0 : NONE;
        }
        if (suit.letter == 'f') {
            return w0 < w1 ? 0 : 1;
        }
        return w0 > w1 ? 0 : 1;
    }

    private Friday friday(int[] own, int[] other, int dampness) {
        int n = suits.size();
        int[] winner = new int[n];
        int[] apart = new int[n];
        int here = 0;
        int there = 0;
        for (int i = 0; i < n; i++) {
            PlainSuit suit = suits.get(i);
            boolean hangs = suit.letter == 'h';
            int w0 = weigh(suit, own[i], dampness, hangs && winner[suit.figure] == 0);
            int w1 = weigh(suit, other[i], dampness, hangs && winner[suit.figure] == 1);
            winner[i] = winner(suit, w0, w1);
            apart[i] = Math.max(w0, w1) - Math.min(w0, w1);
            here += winner[i] == 0 ? 2 * suit.worth : winner[i] == NONE ? suit.worth : 0;
            there += winner[i] == 1 ? 2 * suit.worth : winner[i] == NONE ? suit.worth : 0;
        }
        return new Friday(winner, apart, here, there);
    }

    private int score(int[] own, int[] other) {
        return friday(own, other, damp).own;
    }

    private static void each(int n, int all, int most, Consumer<int[]> what) {
        each(new int[n], 0, all, most, what);
    }

    private static void each(int[] laid, int i, int left, int most, Consumer<int[]> what) {
        if (i == laid.length) {
            what.accept(laid);
            return;
        }
        for (int v = 0; v <= Math.min(left, most); v++) {
            laid[i] = v;
            each(laid, i + 1, left - v, most, what);
        }
        laid[i] = 0;
    }

    /** BEST with a STOCK: the LAYING, its SHEETS, the SCORE behind it. */
    private int[] bestOf(int[] other, int stock, int dampness) {
        int n = suits.size();
        int[] best = new int[n + 2];
        best[n + 1] = -1;
        each(n, stock, 40, laid -> {
            int score = friday(laid, other, dampness).own;
            int sheets = Arrays.stream(laid).sum();
            if (score > best[n + 1] || score == best[n + 1] && sheets < best[n]) {
                System.arraycopy(laid, 0, best, 0, n);
                best[n] = sheets;
                best[n + 1] = score;
            }
        });
        return best;
    }

    private int sureOf(int[] own) {
        int[] least = {1000};
        each(suits.size(), stocks[1], 40, laid -> least[0] = Math.min(least[0], score(own, laid)));
        return least[0];
    }

    private int meanOf(int[] a, int[] b, int p, int q) {
        int[] least = {1_000_000};
        each(suits.size(), stocks[1], 40,
            laid -> least[0] = Math.min(least[0], p * score(a, laid) + (q - p) * score(b, laid)));
        return least[0];
    }

    // ---- in turn

    private final Map<Integer, Integer> inTurn = new HashMap<>();

    private int turnValue(int i, int a, int b) {
        if (i == suits.size()) {
            return 0;
        }
        Integer known = inTurn.get(i * 10000 + a * 100 + b);
        if (known != null) {
            return known;
        }
        int most = -1000;
        for (int x = 0; x <= a; x++) {
            most = Math.max(most, turnReply(i, a, b, x)[1]);
        }
        inTurn.put(i * 10000 + a * 100 + b, most);
        return most;
    }

    private int[] turnReply(int i, int a, int b, int x) {
        PlainSuit suit = suits.get(i);
        int[] reply = {0, 1000};
        for (int y = 0; y <= b; y++) {
            int by = winner(suit, weigh(suit, x, damp, false), weigh(suit, y, damp, false));
            int lead = by == 0 ? 2 * suit.worth : by == 1 ? -2 * suit.worth : 0;
            int v = lead + turnValue(i + 1, a - x, b - y);
            if (v < reply[1]) {
                reply[0] = y;
                reply[1] = v;
            }
        }
        return reply;
    }

    // ---- rules

    private int[] byRule(int which, int at) {
        int n = suits.size();
        int c = stocks[1];
        int[] laid = new int[n];
        int worths = suits.stream().mapToInt(PlainSuit::worth).sum();
        if (which == 0) {
            for (int k = 0; k < c; k++) {
                laid[k % n]++;
            }
        } else if (which == 1) {
            for (int i = 0; i < n; i++) {
                laid[i] = c * suits.get(i).worth / worths;
            }
            laid[0] += c - Arrays.stream(laid).sum();
        } else if (which == 2) {
            laid[0] = c;
        } else if (which == 3) {
            laid[n - 1] = c;
        } else if (which == 4) {
            int great = 0;
            for (int i = n - 1; i >= 0; i--) {
                great = suits.get(i).worth >= suits.get(great).worth ? i : great;
            }
            laid[great] = c;
        } else if (at > 0) {
            for (int i = 0; i < n; i++) {
                while (laid[i] < notes.get(at - 1).laid[i] && c > 0) {
                    laid[i]++;
                    c--;
                }
            }
        }
        return laid;
    }

    private List<Integer> fitting() {
        List<Integer> fit = new ArrayList<>();
        for (int which = 0; which < 6; which++) {
            boolean fits = true;
            for (int k = 0; k < notes.size(); k++) {
                fits &= friday(notes.get(k).laid, byRule(which, k), damp).won() == notes.get(k).won;
            }
            if (fits) {
                fit.add(which);
            }
        }
        return fit;
    }

    // ---- the face

    public int row(int r, int n) {
        return call(() -> {
            badRow(r);
            bad(n > 40);
            find(n < 0, 5);
            rows[r] = new int[n];
            return n;
        });
    }

    private void place(int[] row, int i) {
        find(row == null, 1);
        find(i < 0 || i >= row.length, 2);
    }

    public int lay(int r, int i, int v) {
        return call(() -> {
            badRow(r);
            place(rows[r], i);
            told(rows[r][i]);
            rows[r][i] = v;
            return 1;
        });
    }

    public int at(int r, int i) {
        return call(() -> {
            badRow(r);
            place(rows[r], i);
            return told(rows[r][i]);
        });
    }

    public int tear(int r) {
        return call(() -> {
            badRow(r);
            find(rows[r] == null, 1);
            rows[r] = null;
            return 1;
        });
    }

    public int copy(int r, int i, int to, int j, int n) {
        return call(() -> {
            badRow(r, to);
            find(n < 0, 5);
            find(rows[r] == null || rows[to] == null, 1);
            find(i < 0 || (long) i + n > rows[r].length || j < 0 || (long) j + n > rows[to].length, 2);
            int[] ahead = rows[r].clone();
            for (int k = 0; k < n; k++) {
                rows[to][j + k] = ahead[i + k];
            }
            return 1;
        });
    }

    public int mean(int r) {
        return call(() -> {
            badRow(r);
            find(rows[r] == null, 1);
            find(rows[r].length == 0, 4);
            return told((int) (Arrays.stream(rows[r]).asLongStream().sum() / rows[r].length));
        });
    }

    public int text(int t, int n) {
        return call(() -> {
            bad(t < 0 || t > 3 || n > 80);
            find(n < 0, 5);
            texts[t] = new int[n];
            Arrays.fill(texts[t], 32);
            return n;
        });
    }

    public int put(int t, int i, int v) {
        return call(() -> {
            bad(t < 0 || t > 3);
            place(texts[t], i);
            int was = texts[t][i] + 1000;
            texts[t][i] = (byte) v;
            return was;
        });
    }

    private static String signs(int[] text) {
        StringBuilder all = new StringBuilder();
        for (int b : text) {
            all.append((char) (b & 0xffff));
        }
        return all.toString();
    }

    /** Tries every longer start of the text: a start that some court goes on from is good so far. */
    private static int faultOf(String text) {
        int end = 0;
        while (end < text.length() && text.charAt(end) == ' ') {
            end++;
        }
        String rest = text.substring(end);
        if (!rest.startsWith("n")) {
            return end;
        }
        java.util.regex.Matcher head =
            java.util.regex.Pattern.compile("n(\\d{1,2})?(:)?(\\d{1,2})?").matcher(rest);
        if (!head.lookingAt()) {
            return end;
        }
        if (head.group(1) == null) {
            return end + 1;
        }
        if (Integer.parseInt(head.group(1)) > 40 || head.group(2) == null) {
            return end + head.end(1);
        }
        if (head.group(3) == null) {
            return end + head.end(2);
        }
        if (Integer.parseInt(head.group(3)) > 40) {
            return end + head.end(3);
        }
        end += head.end(3);
        int n = 0;
        while (true) {
            while (end < text.length() && text.charAt(end) == ' ') {
                end++;
            }
            if (end == text.length()) {
                return NONE;
            }
            String letter = text.substring(end, end + 1);
            if (n == 6 || !"sofdph".contains(letter)) {
                return end;
            }
            String due = "[1-9]";
            String more = "dp".contains(letter) ? "[1-9]" : letter.equals("h") ? "[0-" + (n - 1) + "]" : "";
            if (end + 1 == text.length() || !text.substring(end + 1, end + 2).matches(due)) {
                return end + 1;
            }
            if (more.isEmpty()) {
                end += 2;
            } else if (end + 2 == text.length() || more.contains("--") || !text.substring(end + 2, end + 3).matches(more)) {
                return end + 2;
            } else {
                end += 3;
            }
            n++;
        }
    }

    public int fault(int t) {
        return call(() -> {
            bad(t < 0 || t > 3);
            find(texts[t] == null, 1);
            return faultOf(signs(texts[t]));
        });
    }

    public int court(int t) {
        return call(() -> {
            bad(t < 0 || t > 3);
            find(texts[t] == null, 1);
            refuse(faultOf(signs(texts[t])) != NONE, -4);
            String text = signs(texts[t]).replace(" ", "\n");
            suits = new ArrayList<>();
            java.util.regex.Matcher item =
                java.util.regex.Pattern.compile("n(\\d+):(\\d+)|([sof])(.)()|([dph])(.)(.)").matcher(text);
            while (item.find()) {
                if (item.group(1) != null) {
                    stocks = new int[] {Integer.parseInt(item.group(1)), Integer.parseInt(item.group(2))};
                } else if (item.group(3) != null) {
                    suits.add(new PlainSuit(item.group(3).charAt(0), Integer.parseInt(item.group(4)), NONE));
                } else {
                    suits.add(new PlainSuit(item.group(6).charAt(0), Integer.parseInt(item.group(7)),
                        Integer.parseInt(item.group(8))));
                }
            }
            damp = 0;
            lent = new int[4];
            notes = new ArrayList<>();
            Arrays.fill(kept, null);
            inTurn.clear();
            return suits.size();
        });
    }

    private void suitThere(int i) {
        bad(i < 0 || i >= suits.size());
    }

    public int suit(int i, int what) {
        return call(() -> {
            suitThere(i);
            bad(what < 0 || what > 2);
            PlainSuit suit = suits.get(i);
            return told(new int[] {suit.kind(), suit.worth, suit.figure}[what]);
        });
    }

    private int letters(String some) {
        return (int) suits.stream().filter(suit -> some.indexOf(suit.letter) >= 0).count();
    }

    public int mark(int i, int kind) {
        return call(() -> {
            suitThere(i);
            bad(kind < 1 || kind > 5);
            PlainSuit suit = suits.get(i);
            String[] those = {"", "oh", "f", "dp", "p", "h"};
            find(those[kind].indexOf(suit.letter) < 0, 3);
            if (kind == 1) {
                return letters("oh");
            }
            if (kind == 2) {
                return suit.worth;
            }
            if (kind == 3) {
                return suit.figure * damp;
            }
            if (kind == 4) {
                return Math.max(stocks[0], stocks[1]) / suit.figure;
            }
            return (int) suits.stream().filter(one -> one.letter == 'h' && one.figure == i).count();
        });
    }

    public int stock(int side, int v) {
        return call(() -> {
            bad(side < 0 || side > 1 || v < 0 || v > 40);
            int was = stocks[side];
            stocks[side] = v;
            return was;
        });
    }

    public int damp(int v) {
        return call(() -> {
            bad(v < 0 || v > 9);
            int was = damp;
            damp = v;
            inTurn.clear();
            return was;
        });
    }

    public int judge(int own, int other) {
        return call(() -> {
            badRow(own, other);
            layings(own, 0, other, 1);
            Friday friday = friday(rows[own], rows[other], damp);
            asked = friday.other;
            return friday.own;
        });
    }

    public int who(int own, int other, int i) {
        return call(() -> {
            badRow(own, other);
            suitThere(i);
            layings(own, 0, other, 1);
            Friday friday = friday(rows[own], rows[other], damp);
            asked = friday.apart[i];
            return friday.winner[i];
        });
    }

    public int best(int other, int to) {
        return call(() -> {
            badRow(other, to);
            laying(other, 1);
            int n = suits.size();
            int[] best = bestOf(rows[other], stocks[0], damp);
            rows[to] = Arrays.copyOf(best, n);
            asked = best[n];
            return best[n + 1];
        });
    }

    public int fewest(int other, int v) {
        return call(() -> {
            badRow(other);
            bad(v < 0 || v > 108);
            laying(other, 1);
            int[] most = new int[241];
            Arrays.fill(most, -1);
            each(suits.size(), 240, 40, laid -> {
                int sheets = Arrays.stream(laid).sum();
                most[sheets] = Math.max(most[sheets], score(laid, rows[other]));
            });
            for (int n = 0; n <= 240; n++) {
                if (most[n] >= v) {
                    asked = most[n];
                    return n;
                }
            }
            return NONE;
        });
    }

    public int ways(int other, int v) {
        return call(() -> {
            badRow(other);
            bad(v < 0 || v > 108);
            refuse(stocks[0] > 12, -6);
            laying(other, 1);
            int[] count = new int[2];
            each(suits.size(), stocks[0], 40, laid -> {
                count[0]++;
                count[1] += score(laid, rows[other]) >= v ? 1 : 0;
            });
            fraction(count[1], count[0]);
            return count[1];
        });
    }

    public int sure(int own) {
        return call(() -> {
            badRow(own);
            laying(own, 0);
            return sureOf(rows[own]);
        });
    }

    private void small(int side) {
        refuse(stocks[side] > 10 || suits.size() > 4, -6);
    }

    public int safe(int to) {
        return call(() -> {
            badRow(to);
            small(0);
            int[] most = {-1};
            each(suits.size(), stocks[0], 40, laid -> {
                int sure = sureOf(laid);
                if (sure > most[0]) {
                    most[0] = sure;
                    rows[to] = laid.clone();
                }
            });
            return most[0];
        });
    }

    public int mixed(int a, int b, int p, int q) {
        return call(() -> {
            badRow(a, b);
            bad(q < 1 || q > 99 || p < 0 || p > q);
            small(1);
            layings(a, 0, b, 0);
            fraction(meanOf(rows[a], rows[b], p, q), q);
            return 1;
        });
    }

    public int mix(int a, int b) {
        return call(() -> {
            badRow(a, b);
            small(1);
            layings(a, 0, b, 0);
            int best = -1;
            int most = -1;
            for (int p = 0; p <= 12; p++) {
                int mean = meanOf(rows[a], rows[b], p, 12);
                if (mean > most) {
                    most = mean;
                    best = p;
                }
            }
            fraction(most, 12);
            return best;
        });
    }

    public int turns() {
        return call(() -> {
            refuse(stocks[0] > 15 || stocks[1] > 15, -6);
            if (suits.isEmpty()) {
                return NONE;
            }
            asked = turnValue(0, stocks[0], stocks[1]);
            for (int x = 0; x <= stocks[0]; x++) {
                if (turnReply(0, stocks[0], stocks[1], x)[1] == asked) {
                    return x;
                }
            }
            return 12345;
        });
    }

    public int from(int i, int a, int b) {
        return call(() -> {
            bad(i < 0 || i > suits.size() || a < 0 || a > 15 || b < 0 || b > 15);
            return told(turnValue(i, a, b));
        });
    }

    public int answer(int i, int a, int b, int x) {
        return call(() -> {
            suitThere(i);
            bad(a < 0 || a > 15 || b < 0 || b > 15 || x < 0 || x > a);
            return turnReply(i, a, b, x)[0];
        });
    }

    public int lender(int l, int v) {
        return call(() -> {
            bad(l < 0 || l > 3 || v < 0 || v > 20);
            int was = lent[l];
            lent[l] = v;
            return was;
        });
    }

    private int sheetsWith(int set) {
        int all = stocks[0];
        for (int l = 0; l < 4; l++) {
            all += (set & 1 << l) == 0 ? 0 : lent[l];
        }
        return all;
    }

    private int worthOf(int set, int other) {
        int n = suits.size();
        return bestOf(rows[other], sheetsWith(set), damp)[n + 1] - bestOf(rows[other], stocks[0], damp)[n + 1];
    }

    public int lend(int set, int other) {
        return call(() -> {
            bad(set < 0 || set > 15);
            badRow(other);
            laying(other, 1);
            refuse(sheetsWith(set) > 40, -6);
            return worthOf(set, other);
        });
    }

    public int leaves(int other, int r) {
        return call(() -> {
            badRow(other, r);
            find(rows[other] == null || rows[r] == null, 1);
            find(rows[other].length != suits.size() || rows[r].length != 4, 5);
            laying(other, 1);
            find(Arrays.stream(rows[r]).anyMatch(v -> v < 0 || v > 999), 3);
            refuse(sheetsWith(15) > 40, -6);
            for (int set = 1; set <= 15; set++) {
                int shares = 0;
                for (int l = 0; l < 4; l++) {
                    shares += (set & 1 << l) == 0 ? 0 : rows[r][l];
                }
                int worth = worthOf(set, other);
                if (worth > shares || set == 15 && worth != shares) {
                    return set;
                }
            }
            return 0;
        });
    }

    private static void orders(List<Integer> ahead, Consumer<List<Integer>> what) {
        if (ahead.size() == 4) {
            what.accept(ahead);
        }
        for (int l = 0; l < 4; l++) {
            if (!ahead.contains(l)) {
                ahead.add(l);
                orders(ahead, what);
                ahead.remove(ahead.size() - 1);
            }
        }
    }

    public int adds(int l, int other) {
        return call(() -> {
            bad(l < 0 || l > 3);
            badRow(other);
            laying(other, 1);
            refuse(sheetsWith(15) > 40, -6);
            int[] worths = new int[16];
            for (int set = 0; set < 16; set++) {
                worths[set] = worthOf(set, other);
            }
            int[] all = new int[2];
            orders(new ArrayList<>(), order -> {
                int set = 0;
                for (int one : order.subList(0, order.indexOf(l))) {
                    set |= 1 << one;
                }
                all[0] += worths[set | 1 << l] - worths[set];
                all[1]++;
            });
            fraction(all[0], all[1]);
            return 1;
        });
    }

    public int when(int other) {
        return call(() -> {
            badRow(other);
            laying(other, 1);
            int day = 0;
            int most = -1;
            for (int d = 0; d <= 9; d++) {
                int score = bestOf(rows[other], stocks[0], d)[suits.size() + 1];
                if (score > most) {
                    most = score;
                    day = d;
                }
            }
            asked = most;
            return day;
        });
    }

    public int rule(int which, int to) {
        return call(() -> {
            bad(which < 0 || which > 5);
            badRow(to);
            find(suits.isEmpty(), 4);
            rows[to] = byRule(which, notes.size());
            return Arrays.stream(rows[to]).sum();
        });
    }

    public int note(int own, int won) {
        return call(() -> {
            badRow(own);
            bad(won < 0 || won >= 1 << suits.size());
            laying(own, 0);
            refuse(notes.size() == 8, -2);
            notes.add(new PlainNote(rows[own].clone(), won));
            return notes.size() - 1;
        });
    }

    public int back(int n) {
        return call(() -> {
            bad(n < 0 || n > notes.size());
            int gone = 0;
            while (notes.size() > n) {
                notes.remove(n);
                gone++;
            }
            return gone;
        });
    }

    public int rules() {
        return call(() -> {
            find(suits.isEmpty(), 4);
            int set = 0;
            Set<String> unlike = new HashSet<>();
            for (int which : fitting()) {
                set |= 1 << which;
                unlike.add(Arrays.toString(byRule(which, notes.size())));
            }
            asked = unlike.size();
            return set;
        });
    }

    public int reply(int to) {
        return call(() -> {
            badRow(to);
            find(suits.isEmpty(), 4);
            if (fitting().isEmpty()) {
                return NONE;
            }
            int n = suits.size();
            int[] best = bestOf(byRule(fitting().get(0), notes.size()), stocks[0], damp);
            rows[to] = Arrays.copyOf(best, n);
            asked = fitting().get(0);
            return best[n + 1];
        });
    }

    public int tell(int to) {
        return call(() -> {
            badRow(to);
            small(0);
            find(suits.isEmpty(), 4);
            List<Integer> fit = fitting();
            int[] most = {-1};
            each(suits.size(), stocks[0], 40, laid -> {
                Set<Integer> unlike = new HashSet<>();
                for (int which : fit) {
                    unlike.add(friday(laid, byRule(which, notes.size()), damp).won());
                }
                if (unlike.size() > most[0]) {
                    most[0] = unlike.size();
                    rows[to] = laid.clone();
                }
            });
            return most[0];
        });
    }

    public int keep(int k) {
        return call(() -> {
            bad(k < 0 || k > 2);
            refuse(suits.isEmpty(), -4);
            kept[k] = new PlainCourt(suits, stocks.clone(), damp, lent.clone(), new ArrayList<>(notes));
            return notes.size();
        });
    }

    public int on(int k) {
        return call(() -> {
            bad(k < 0 || k > 2);
            find(kept[k] == null, 1);
            suits = kept[k].suits;
            stocks = kept[k].stocks.clone();
            damp = kept[k].damp;
            lent = kept[k].lent.clone();
            notes = new ArrayList<>(kept[k].notes);
            inTurn.clear();
            return notes.size();
        });
    }

    public int asked() {
        return asked;
    }

    public long upper() {
        return upper;
    }

    public long lower() {
        return lower;
    }

    private static int there(Object[] some) {
        return (int) Arrays.stream(some).filter(one -> one != null).count();
    }

    public int count(int what) {
        return switch (what) {
            case 0 -> suits.size();
            case 1 -> suits.stream().mapToInt(PlainSuit::worth).sum();
            case 2 -> letters("oh");
            case 3 -> letters("dp");
            case 4 -> notes.size();
            case 5 -> there(kept);
            case 6 -> there(rows);
            case 7 -> there(texts);
            default -> -1;
        };
    }

    public int finding() {
        return finding;
    }

    public int findings(int f) {
        return call(() -> {
            bad(f < 1 || f > 5);
            return found[f];
        });
    }

    private static void tellAll(List<Long> all, int[][] rows) {
        for (int[] row : rows) {
            all.add(row == null ? -1L : row.length);
            for (int i = 0; row != null && i < row.length; i++) {
                all.add((long) row[i]);
            }
        }
    }

    public long digest() {
        List<Long> all = new ArrayList<>();
        for (int what = 0; what < 8; what++) {
            all.add((long) count(what));
        }
        for (int v : new int[] {stocks[0], stocks[1], damp, lent[0], lent[1], lent[2], lent[3]}) {
            all.add((long) v);
        }
        for (PlainSuit suit : suits) {
            all.addAll(List.of((long) suit.kind(), (long) suit.worth, (long) suit.figure));
        }
        for (PlainNote note : notes) {
            for (int v : note.laid) {
                all.add((long) v);
            }
            all.add((long) note.won);
        }
        for (PlainCourt court : kept) {
            all.add(court == null ? -1L : court.notes.size());
        }
        tellAll(all, rows);
        tellAll(all, texts);
        long h = 17;
        for (long v : all) {
            h = 31 * h + v;
        }
        return h;
    }
}
