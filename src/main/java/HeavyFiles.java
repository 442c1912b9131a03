import java.util.Arrays;

/** The heavier file wins: suits on a scale, where to lay one's sheets, and by which rules the other one lays. */
public final class HeavyFiles {
    public static final int BAD = -1, FULL = -2, FINDING = -3, STATE = -4, SPENT = -6, NONE = -9;

    private static final int NOTHING = 1, BEYOND = 2, UNLIKE = 3, NOUGHT = 4, SIZE = 5;
    private static final int ROWS = 6, PLACES = 40, TEXTS = 4, SIGNS = 80, KEPT = 3;
    private static final int SUITS = 6, SHEETS = 40, DAMPEST = 9, GREATEST_SCORE = 108;
    private static final int LENDERS = 4, MOST_LENT = 20, ALL_LENDERS = 15, MOST_SHARE = 999;
    private static final int NOTES = 8, RULES = 6;
    private static final int PLAIN = 0, OWN = 1, FLY = 2, DAMP = 3, PILE = 4, HANGING = 5;
    private static final int EVEN = 0, BY_WORTH = 1, FIRST = 2, LAST = 3, GREAT = 4;
    private static final int HERE = 0, THERE = 1, NOBODY = 2, WINNERS = 3;
    private static final int HANGING_BONUS = 2;
    private static final int MOST_FOR_WAYS = 12, MOST_FOR_MIXES = 10, SUITS_FOR_MIXES = 4, MIX_PARTS = 12;
    private static final int MOST_PARTS = 99, MOST_IN_TURN = 15, TURN_STEPS = 16;
    private static final int BLANK = 32, MISSING = -1;
    // far above any number and any count of steps that a call can come to
    private static final int MANY = 1_000_000;

    private final Row[] rows = new Row[ROWS];
    private final Row[] texts = new Row[TEXTS];
    private final Court court = new Court();
    private final Court[] kept = new Court[KEPT];
    private final Reader reader = new Reader();
    private final Scale scale = new Scale();
    private final Layings layings = new Layings();
    private final Search search = new Search();
    private final Dread dread = new Dread();
    private final Mixing mixing = new Mixing();
    private final TurnTable turnTable = new TurnTable();
    private final Guess guess = new Guess();
    private final int[] found = new int[SIZE + 1];
    private int latest;
    private int asked;
    private long upper;
    private long lower = 1;

    public HeavyFiles() {
        for (int r = 0; r < ROWS; r++) {
            rows[r] = new Row(PLACES);
        }
        for (int t = 0; t < TEXTS; t++) {
            texts[t] = new Row(SIGNS);
        }
        for (int k = 0; k < KEPT; k++) {
            kept[k] = new Court();
        }
    }

    // ---- 1 rows, texts, courts

    public int row(int r, int n) {
        Row row = rowOf(r);
        if (row == null || n > PLACES) {
            return BAD;
        }
        if (n < 0) {
            return refused(SIZE);
        }
        row.renew(n, 0);
        return n;
    }

    public int lay(int r, int i, int v) {
        Row row = rowOf(r);
        if (row == null) {
            return BAD;
        }
        if (row.isMissing()) {
            return refused(NOTHING);
        }
        if (!row.has(i)) {
            return refused(BEYOND);
        }
        int was = row.places[i];
        row.places[i] = v;
        return told(was);
    }

    public int at(int r, int i) {
        Row row = rowOf(r);
        if (row == null) {
            return BAD;
        }
        if (row.isMissing()) {
            return refused(NOTHING);
        }
        if (!row.has(i)) {
            return refused(BEYOND);
        }
        return told(row.places[i]);
    }

    public int tear(int r) {
        Row row = rowOf(r);
        if (row == null) {
            return BAD;
        }
        if (row.isMissing()) {
            return refused(NOTHING);
        }
        row.size = MISSING;
        return 1;
    }

    public int copy(int r, int i, int to, int j, int n) {
        Row source = rowOf(r);
        Row target = rowOf(to);
        if (source == null || target == null) {
            return BAD;
        }
        if (n < 0) {
            return refused(SIZE);
        }
        if (source.isMissing() || target.isMissing()) {
            return refused(NOTHING);
        }
        if (!source.hasAll(i, n) || !target.hasAll(j, n)) {
            return refused(BEYOND);
        }
        System.arraycopy(source.places, i, target.places, j, n);
        return 1;
    }

    public int mean(int r) {
        Row row = rowOf(r);
        if (row == null) {
            return BAD;
        }
        if (row.isMissing()) {
            return refused(NOTHING);
        }
        if (row.size == 0) {
            return refused(NOUGHT);
        }
        return told((int) (row.total() / row.size));
    }

    public int text(int t, int n) {
        Row text = textOf(t);
        if (text == null || n > SIGNS) {
            return BAD;
        }
        if (n < 0) {
            return refused(SIZE);
        }
        text.renew(n, BLANK);
        return n;
    }

    public int put(int t, int i, int v) {
        Row text = textOf(t);
        if (text == null) {
            return BAD;
        }
        if (text.isMissing()) {
            return refused(NOTHING);
        }
        if (!text.has(i)) {
            return refused(BEYOND);
        }
        int was = text.places[i];
        text.places[i] = (byte) v;
        return was + 1000;
    }

    public int fault(int t) {
        Row text = textOf(t);
        if (text == null) {
            return BAD;
        }
        if (text.isMissing()) {
            return refused(NOTHING);
        }
        return reader.read(text);
    }

    public int court(int t) {
        Row text = textOf(t);
        if (text == null) {
            return BAD;
        }
        if (text.isMissing()) {
            return refused(NOTHING);
        }
        if (reader.read(text) != NONE) {
            return STATE;
        }
        court.open(reader);
        for (int k = 0; k < KEPT; k++) {
            kept[k].isThere = false;
        }
        turnTable.forget();
        return court.size;
    }

    public int suit(int i, int what) {
        Suit suit = court.suitOf(i);
        if (suit == null || what < 0 || what > 2) {
            return BAD;
        }
        return told(suit.tells(what));
    }

    public int mark(int i, int kind) {
        Suit suit = court.suitOf(i);
        if (suit == null || kind < OWN || kind > HANGING) {
            return BAD;
        }
        if (!suit.isA(kind)) {
            return refused(UNLIKE);
        }
        switch (kind) {
            case OWN:
                return court.howMany(OWN);
            case FLY:
                return suit.points(HERE, suit.winner(0, 0));
            case DAMP:
                return suit.extra(court.damp, false);
            case PILE:
                return suit.pilesOf(Math.max(court.stocks[HERE], court.stocks[THERE]));
            default:
                return court.hangingOn(i);
        }
    }

    public int stock(int side, int v) {
        if (side < HERE || side > THERE || v < 0 || v > SHEETS) {
            return BAD;
        }
        int was = court.stocks[side];
        court.stocks[side] = v;
        return was;
    }

    public int damp(int v) {
        if (v < 0 || v > DAMPEST) {
            return BAD;
        }
        int was = court.damp;
        court.damp = v;
        turnTable.forget();
        return was;
    }

    // ---- 2 fridays, layings

    public int judge(int own, int other) {
        Row here = rowOf(own);
        Row there = rowOf(other);
        if (here == null || there == null) {
            return BAD;
        }
        if (isWrong(here, HERE, there, THERE)) {
            return FINDING;
        }
        scale.weigh(court, here.places, there.places, 0);
        asked = 2 * court.worths() - scale.score;
        return scale.score;
    }

    public int who(int own, int other, int i) {
        Row here = rowOf(own);
        Row there = rowOf(other);
        if (here == null || there == null || court.suitOf(i) == null) {
            return BAD;
        }
        if (isWrong(here, HERE, there, THERE)) {
            return FINDING;
        }
        scale.weigh(court, here.places, there.places, 0);
        asked = scale.leads[i];
        return scale.winners[i] == NOBODY ? NONE : scale.winners[i];
    }

    public int best(int other, int to) {
        Row there = rowOf(other);
        Row target = rowOf(to);
        if (there == null || target == null) {
            return BAD;
        }
        if (isWrong(there, THERE)) {
            return FINDING;
        }
        search.run(court, court.damp, there.places, court.stocks[HERE]);
        target.take(search.laying, court.size);
        asked = search.sheets;
        return search.score;
    }

    public int fewest(int other, int v) {
        Row there = rowOf(other);
        if (there == null || v < 0 || v > GREATEST_SCORE) {
            return BAD;
        }
        if (isWrong(there, THERE)) {
            return FINDING;
        }
        search.run(court, court.damp, there.places, SUITS * SHEETS);
        int sheets = search.fewestFor(v);
        if (sheets != NONE) {
            asked = search.mostBy(sheets);
        }
        return sheets;
    }

    public int ways(int other, int v) {
        Row there = rowOf(other);
        if (there == null || v < 0 || v > GREATEST_SCORE) {
            return BAD;
        }
        if (court.stocks[HERE] > MOST_FOR_WAYS) {
            return SPENT;
        }
        if (isWrong(there, THERE)) {
            return FINDING;
        }
        layings.begin(court.size, court.stocks[HERE]);
        int all = 0;
        int enough = 0;
        for (int from = 0; from >= 0 && all < MANY; from = layings.next()) {
            scale.weigh(court, layings.laid, there.places, from);
            all++;
            if (scale.score >= v) {
                enough++;
            }
        }
        fraction(enough, all);
        return enough;
    }

    public int sure(int own) {
        Row here = rowOf(own);
        if (here == null) {
            return BAD;
        }
        if (isWrong(here, HERE)) {
            return FINDING;
        }
        return dread.leastFor(court, here.places, MISSING);
    }

    public int safe(int to) {
        Row target = rowOf(to);
        if (target == null) {
            return BAD;
        }
        if (isTooMuch(HERE)) {
            return SPENT;
        }
        layings.begin(court.size, court.stocks[HERE]);
        int greatest = MISSING;
        int from = 0;
        for (int step = 0; from >= 0 && step < MANY; step++) {
            int least = dread.leastFor(court, layings.laid, greatest);
            if (least > greatest) {
                greatest = least;
                target.take(layings.laid, court.size);
            }
            from = layings.next();
        }
        return greatest;
    }

    public int mixed(int a, int b, int p, int q) {
        Row first = rowOf(a);
        Row second = rowOf(b);
        if (first == null || second == null || q < 1 || q > MOST_PARTS || p < 0 || p > q) {
            return BAD;
        }
        if (isTooMuch(THERE)) {
            return SPENT;
        }
        if (isWrong(first, HERE, second, HERE)) {
            return FINDING;
        }
        mixing.weighAll(court, layings, first.places, second.places);
        fraction(mixing.leastBy(p, q), q);
        return 1;
    }

    public int mix(int a, int b) {
        Row first = rowOf(a);
        Row second = rowOf(b);
        if (first == null || second == null) {
            return BAD;
        }
        if (isTooMuch(THERE)) {
            return SPENT;
        }
        if (isWrong(first, HERE, second, HERE)) {
            return FINDING;
        }
        mixing.weighAll(court, layings, first.places, second.places);
        int parts = mixing.bestParts();
        fraction(mixing.leastBy(parts, MIX_PARTS), MIX_PARTS);
        return parts;
    }

    // ---- 3 in turn

    public int turns() {
        int a = court.stocks[HERE];
        int b = court.stocks[THERE];
        if (a > MOST_IN_TURN || b > MOST_IN_TURN) {
            return SPENT;
        }
        if (court.size == 0) {
            return NONE;
        }
        asked = turnTable.valueOf(court, 0, a, b);
        return turnTable.firstLaid(court, a, b);
    }

    public int from(int i, int a, int b) {
        if (i < 0 || i > court.size || !isInTurn(a) || !isInTurn(b)) {
            return BAD;
        }
        return told(turnTable.valueOf(court, i, a, b));
    }

    public int answer(int i, int a, int b, int x) {
        if (court.suitOf(i) == null || !isInTurn(a) || !isInTurn(b) || x < 0 || x > a) {
            return BAD;
        }
        return turnTable.answerTo(court, i, a, b, x);
    }

    // ---- 4 lenders

    public int lender(int l, int v) {
        if (l < 0 || l >= LENDERS || v < 0 || v > MOST_LENT) {
            return BAD;
        }
        int was = court.lent[l];
        court.lent[l] = v;
        return was;
    }

    public int lend(int set, int other) {
        Row there = rowOf(other);
        if (set < 0 || set > ALL_LENDERS || there == null) {
            return BAD;
        }
        if (isWrong(there, THERE)) {
            return FINDING;
        }
        if (court.stockWith(set) > SHEETS) {
            return SPENT;
        }
        search.run(court, court.damp, there.places, SHEETS);
        return worthOf(set);
    }

    public int leaves(int other, int r) {
        Row there = rowOf(other);
        Row shares = rowOf(r);
        if (there == null || shares == null) {
            return BAD;
        }
        if (areWrong(there, shares)) {
            return FINDING;
        }
        if (court.stockWith(ALL_LENDERS) > SHEETS) {
            return SPENT;
        }
        search.run(court, court.damp, there.places, SHEETS);
        for (int set = 1; set < ALL_LENDERS; set++) {
            if (worthOf(set) > shareOf(shares, set)) {
                return set;
            }
        }
        return worthOf(ALL_LENDERS) == shareOf(shares, ALL_LENDERS) ? 0 : ALL_LENDERS;
    }

    public int adds(int l, int other) {
        Row there = rowOf(other);
        if (l < 0 || l >= LENDERS || there == null) {
            return BAD;
        }
        if (isWrong(there, THERE)) {
            return FINDING;
        }
        if (court.stockWith(ALL_LENDERS) > SHEETS) {
            return SPENT;
        }
        search.run(court, court.damp, there.places, SHEETS);
        int all = 0;
        for (int set = 0; set <= ALL_LENDERS; set++) {
            if ((set >> l & 1) == 0) {
                all += ordersAround(Integer.bitCount(set)) * (worthOf(set | 1 << l) - worthOf(set));
            }
        }
        fraction(all, 24);
        return 1;
    }

    // ---- 5 damp days, rules

    public int when(int other) {
        Row there = rowOf(other);
        if (there == null) {
            return BAD;
        }
        if (isWrong(there, THERE)) {
            return FINDING;
        }
        int day = 0;
        int greatest = MISSING;
        for (int d = 0; d <= DAMPEST; d++) {
            search.run(court, d, there.places, court.stocks[HERE]);
            if (search.score > greatest) {
                greatest = search.score;
                day = d;
            }
        }
        asked = greatest;
        return day;
    }

    public int rule(int which, int to) {
        Row target = rowOf(to);
        if (which < 0 || which >= RULES || target == null) {
            return BAD;
        }
        if (court.size == 0) {
            return refused(NOUGHT);
        }
        guess.layBy(court, which, court.notes);
        target.take(guess.laid, court.size);
        return (int) target.total();
    }

    public int note(int own, int won) {
        Row here = rowOf(own);
        if (here == null || won < 0 || won >= 1 << court.size) {
            return BAD;
        }
        if (isWrong(here, HERE)) {
            return FINDING;
        }
        if (court.notes >= NOTES) {
            return FULL;
        }
        court.write(here.places, won);
        return court.notes - 1;
    }

    public int back(int n) {
        if (n < 0 || n > court.notes) {
            return BAD;
        }
        int gone = court.notes - n;
        court.notes = n;
        return gone;
    }

    public int rules() {
        if (court.size == 0) {
            return refused(NOUGHT);
        }
        int fitting = guess.fitting(court);
        asked = guess.unlikeLayings(court, fitting);
        return fitting;
    }

    public int reply(int to) {
        Row target = rowOf(to);
        if (target == null) {
            return BAD;
        }
        if (court.size == 0) {
            return refused(NOUGHT);
        }
        int fitting = guess.fitting(court);
        if (fitting == 0) {
            return NONE;
        }
        int which = Guess.firstOf(fitting);
        guess.layBy(court, which, court.notes);
        search.run(court, court.damp, guess.laid, court.stocks[HERE]);
        target.take(search.laying, court.size);
        asked = which;
        return search.score;
    }

    public int tell(int to) {
        Row target = rowOf(to);
        if (target == null) {
            return BAD;
        }
        if (isTooMuch(HERE)) {
            return SPENT;
        }
        if (court.size == 0) {
            return refused(NOUGHT);
        }
        guess.prepare(court, guess.fitting(court));
        layings.begin(court.size, court.stocks[HERE]);
        int most = MISSING;
        int from = 0;
        for (int step = 0; from >= 0 && step < MANY; step++) {
            int sets = guess.unlikeSets(court, layings.laid, from);
            if (sets > most) {
                most = sets;
                target.take(layings.laid, court.size);
            }
            from = layings.next();
        }
        return most;
    }

    public int keep(int k) {
        Court place = keptOf(k);
        if (place == null) {
            return BAD;
        }
        if (court.size == 0) {
            return STATE;
        }
        place.take(court);
        place.isThere = true;
        return place.notes;
    }

    public int on(int k) {
        Court place = keptOf(k);
        if (place == null) {
            return BAD;
        }
        if (!place.isThere) {
            return refused(NOTHING);
        }
        court.take(place);
        turnTable.forget();
        return court.notes;
    }

    // ---- 6 what is told

    public int asked() {
        return asked;
    }

    public long upper() {
        return upper;
    }

    public long lower() {
        return lower;
    }

    public int count(int what) {
        switch (what) {
            case 0:
                return court.size;
            case 1:
                return court.worths();
            case 2:
                return court.howMany(OWN);
            case 3:
                return court.howMany(DAMP);
            case 4:
                return court.notes;
            case 5:
                return keptCourts();
            case 6:
                return there(rows);
            case 7:
                return there(texts);
            default:
                return BAD;
        }
    }

    public int finding() {
        return latest;
    }

    public int findings(int f) {
        return f < NOTHING || f > SIZE ? BAD : found[f];
    }

    public long digest() {
        long h = 17;
        for (int what = 0; what <= 7; what++) {
            h = joined(h, count(what));
        }
        h = court.joinedTo(h);
        for (int k = 0; k < KEPT; k++) {
            h = joined(h, kept[k].isThere ? kept[k].notes : MISSING);
        }
        for (int r = 0; r < ROWS; r++) {
            h = rows[r].joinedTo(h);
        }
        for (int t = 0; t < TEXTS; t++) {
            h = texts[t].joinedTo(h);
        }
        return h;
    }

    private Row rowOf(int r) {
        return r < 0 || r >= ROWS ? null : rows[r];
    }

    private Row textOf(int t) {
        return t < 0 || t >= TEXTS ? null : texts[t];
    }

    private Court keptOf(int k) {
        return k < 0 || k >= KEPT ? null : kept[k];
    }

    private int keptCourts() {
        int n = 0;
        for (int k = 0; k < KEPT; k++) {
            if (kept[k].isThere) {
                n++;
            }
        }
        return n;
    }

    private static int there(Row[] of) {
        int n = 0;
        for (int i = 0; i < of.length; i++) {
            if (!of[i].isMissing()) {
                n++;
            }
        }
        return n;
    }

    private static boolean isInTurn(int sheets) {
        return sheets >= 0 && sheets <= MOST_IN_TURN;
    }

    private boolean isTooMuch(int side) {
        return court.stocks[side] > MOST_FOR_MIXES || court.size > SUITS_FOR_MIXES;
    }

    private int refused(int finding) {
        latest = finding;
        found[finding]++;
        return FINDING;
    }

    private int told(int v) {
        asked = v;
        return 1;
    }

    private void fraction(long up, long low) {
        long a = Math.abs(up);
        long b = low;
        for (int step = 0; b != 0 && step < MANY; step++) {
            long rest = a % b;
            a = b;
            b = rest;
        }
        if (a > 0) {
            upper = up / a;
            lower = low / a;
        }
    }

    private static long joined(long h, long v) {
        return 31 * h + v;
    }

    private boolean isWrong(Row laying, int side) {
        return isWrong(laying, side, laying, side);
    }

    private boolean isWrong(Row a, int sideA, Row b, int sideB) {
        boolean isThere = !a.isMissing() && !b.isMissing();
        boolean hasSize = a.size == court.size && b.size == court.size;
        return isRefused(isThere, hasSize, court.allows(a, sideA) && court.allows(b, sideB));
    }

    private boolean areWrong(Row laying, Row shares) {
        boolean isThere = !laying.isMissing() && !shares.isMissing();
        boolean hasSize = laying.size == court.size && shares.size == LENDERS;
        return isRefused(isThere, hasSize, court.allows(laying, THERE) && shares.isWithin(MOST_SHARE));
    }

    private boolean isRefused(boolean isThere, boolean hasSize, boolean isAllowed) {
        int wrong = !isThere ? NOTHING : !hasSize ? SIZE : !isAllowed ? UNLIKE : 0;
        if (wrong != 0) {
            refused(wrong);
        }
        return wrong != 0;
    }

    /** What a set of LENDERS is worth, by the latest search. */
    private int worthOf(int set) {
        return search.mostBy(court.stockWith(set)) - search.mostBy(court.stocks[HERE]);
    }

    private static int shareOf(Row shares, int set) {
        int all = 0;
        for (int l = 0; l < LENDERS; l++) {
            if ((set >> l & 1) != 0) {
                all += shares.places[l];
            }
        }
        return all;
    }

    /** Of the 24 orders of four LENDERS, those in which so many told ones come ahead of a told one. */
    private static int ordersAround(int ahead) {
        return ahead == 0 || ahead == 3 ? 6 : 2;
    }

    /** A row of numbers that may be missing: a ROW of ints or a TEXT of bytes. */
    private static final class Row {
        final int[] places;
        int size = MISSING;

        Row(int most) {
            places = new int[most];
        }

        boolean isMissing() {
            return size < 0;
        }

        boolean has(int i) {
            return i >= 0 && i < size;
        }

        boolean hasAll(int i, int n) {
            return i >= 0 && i <= size && n >= 0 && n <= size - i;
        }

        boolean isWithin(int most) {
            for (int i = 0; i < size; i++) {
                if (places[i] < 0 || places[i] > most) {
                    return false;
                }
            }
            return true;
        }

        void renew(int n, int v) {
            size = n;
            Arrays.fill(places, v);
        }

        void take(int[] from, int n) {
            size = Math.max(0, Math.min(n, Math.min(from.length, places.length)));
            System.arraycopy(from, 0, places, 0, size);
        }

        long total() {
            long all = 0;
            for (int i = 0; i < size; i++) {
                all += places[i];
            }
            return all;
        }

        long joinedTo(long before) {
            long h = joined(before, size);
            for (int i = 0; i < size; i++) {
                h = joined(h, places[i]);
            }
            return h;
        }
    }

    /** A SUIT of any KIND. */
    private static final class Suit {
        int kind;
        int worth;
        // k or j, NONE where the KIND has neither
        int figure = NONE;

        void become(int ofKind, int ofWorth, int withFigure) {
            kind = ofKind;
            worth = ofWorth;
            figure = withFigure;
        }

        boolean isA(int other) {
            return other == PLAIN || other == kind
                || other == OWN && kind == HANGING || other == DAMP && kind == PILE;
        }

        int tells(int what) {
            return what == 0 ? kind : what == 1 ? worth : figure;
        }

        int pilesOf(int sheets) {
            return figure > 0 ? sheets / figure : 0;
        }

        /** Who won the SUIT that this one hangs on. */
        int aheadIn(int[] winners) {
            return kind == HANGING && figure >= 0 && figure < winners.length ? winners[figure] : NOBODY;
        }

        int extra(int damp, boolean wonAhead) {
            if (kind == DAMP || kind == PILE) {
                return figure * damp;
            }
            return wonAhead ? HANGING_BONUS : 0;
        }

        /** The fewest SHEETS that weigh anything, or 0 where none of them may weigh, too. */
        private int least() {
            return kind == PILE ? figure : kind == DAMP ? 1 : 0;
        }

        int weight(int sheets, int extra) {
            return sheets < least() ? 0 : sheets + extra;
        }

        int winner(int here, int there) {
            if (here == there) {
                return kind == OWN || kind == HANGING ? HERE : NOBODY;
            }
            return here > there == (kind != FLY) ? HERE : THERE;
        }

        int points(int side, int winner) {
            return winner == side ? 2 * worth : winner == NOBODY ? worth : 0;
        }

        /** The fewest SHEETS of a SIDE by which this SUIT is WON so, against a WEIGHT; NONE: it can't be. */
        int need(int side, int winner, int against, int extra) {
            boolean evenIsOwn = kind == OWN || kind == HANGING;
            int low = 0;
            int high = MANY;
            if (winner == NOBODY) {
                if (evenIsOwn) {
                    return NONE;
                }
                low = against;
                high = against;
            } else if (winner == side == (kind != FLY)) {
                low = evenIsOwn && side == HERE ? against : against + 1;
            } else {
                high = evenIsOwn && side == THERE ? against : against - 1;
            }
            int none = weight(0, extra);
            if (none >= low) {
                return none <= high ? 0 : NONE;
            }
            // a greater number of SHEETS never weighs less
            int sheets = Math.max(least(), low - extra);
            return sheets + extra <= high ? sheets : NONE;
        }
    }

    /** SUITS, STOCKS, DAMP, LENDERS and NOTES. */
    private static final class Court {
        private final Suit[] suits = new Suit[SUITS];
        final int[] stocks = new int[2];
        final int[] lent = new int[LENDERS];
        private final int[][] laid = new int[NOTES][SUITS];
        private final int[] won = new int[NOTES];
        int size;
        int damp;
        int notes;
        boolean isThere;

        Court() {
            for (int i = 0; i < SUITS; i++) {
                suits[i] = new Suit();
            }
        }

        void open(Reader reader) {
            size = reader.suits;
            for (int i = 0; i < size; i++) {
                suits[i].become(reader.kinds[i], reader.worths[i], reader.figures[i]);
            }
            System.arraycopy(reader.stocks, 0, stocks, 0, 2);
            Arrays.fill(lent, 0);
            damp = 0;
            notes = 0;
        }

        void take(Court other) {
            size = other.size;
            damp = other.damp;
            notes = other.notes;
            System.arraycopy(other.stocks, 0, stocks, 0, 2);
            System.arraycopy(other.lent, 0, lent, 0, LENDERS);
            System.arraycopy(other.won, 0, won, 0, NOTES);
            for (int i = 0; i < SUITS; i++) {
                suits[i].become(other.suits[i].kind, other.suits[i].worth, other.suits[i].figure);
            }
            for (int k = 0; k < NOTES; k++) {
                System.arraycopy(other.laid[k], 0, laid[k], 0, SUITS);
            }
        }

        Suit suitOf(int i) {
            return i < 0 || i >= size || i >= SUITS ? null : suits[i];
        }

        int worths() {
            int all = 0;
            for (int i = 0; i < size; i++) {
                all += suits[i].worth;
            }
            return all;
        }

        int howMany(int kind) {
            int n = 0;
            for (int i = 0; i < size; i++) {
                if (suits[i].isA(kind)) {
                    n++;
                }
            }
            return n;
        }

        int hangingOn(int j) {
            int n = 0;
            for (int i = 0; i < size; i++) {
                if (suits[i].kind == HANGING && suits[i].figure == j) {
                    n++;
                }
            }
            return n;
        }

        int stockWith(int set) {
            int all = stocks[HERE];
            for (int l = 0; l < LENDERS; l++) {
                if ((set >> l & 1) != 0) {
                    all += lent[l];
                }
            }
            return all;
        }

        boolean allows(Row row, int side) {
            return row.isWithin(SHEETS) && row.total() <= stocks[side];
        }

        /** The fewest SHEETS of a SIDE by which SUIT i is WON so against those of the other one; NONE. */
        int need(int i, int side, int winner, int theirs, int dampness, int[] winners) {
            Suit suit = suitOf(i);
            if (suit == null) {
                return NONE;
            }
            int ahead = suit.aheadIn(winners);
            int against = suit.weight(theirs, suit.extra(dampness, ahead == THERE - side));
            return suit.need(side, winner, against, suit.extra(dampness, ahead == side));
        }

        void write(int[] own, int what) {
            if (notes >= NOTES) {
                return;
            }
            System.arraycopy(own, 0, laid[notes], 0, Math.min(own.length, SUITS));
            won[notes] = what;
            notes++;
        }

        int wonAt(int k) {
            return k < 0 || k >= notes ? 0 : won[k];
        }

        /** What SIDE 0 laid at a NOTE, null without such a NOTE. */
        int[] laidAt(int k) {
            return k < 0 || k >= notes ? null : laid[k];
        }

        long joinedTo(long before) {
            long h = joined(before, stocks[HERE]);
            h = joined(h, stocks[THERE]);
            h = joined(h, damp);
            for (int l = 0; l < LENDERS; l++) {
                h = joined(h, lent[l]);
            }
            for (int i = 0; i < size; i++) {
                for (int what = 0; what <= 2; what++) {
                    h = joined(h, suits[i].tells(what));
                }
            }
            for (int k = 0; k < notes; k++) {
                for (int i = 0; i < size; i++) {
                    h = joined(h, laid[k][i]);
                }
                h = joined(h, won[k]);
            }
            return h;
        }
    }

    /** Reads a TEXT; what it read is good only if it found no FAULT. */
    private static final class Reader {
        // no byte has this number
        private static final int END = 1000;

        final int[] stocks = new int[2];
        final int[] kinds = new int[SUITS];
        final int[] worths = new int[SUITS];
        final int[] figures = new int[SUITS];
        int suits;
        private int place;

        /** The FAULT, or NONE. */
        int read(Row text) {
            place = 0;
            suits = 0;
            skipBlanks(text);
            if (!passes(text, 'n') || !passesStock(text, HERE) || !passes(text, ':') || !passesStock(text, THERE)) {
                return place;
            }
            for (int i = 0; i <= SUITS; i++) {
                skipBlanks(text);
                if (place >= text.size) {
                    return NONE;
                }
                if (!passesSuit(text)) {
                    return place;
                }
            }
            return place;
        }

        private int sign(Row text) {
            return text.has(place) ? text.places[place] : END;
        }

        private int figure(Row text) {
            int sign = sign(text);
            return sign >= '0' && sign <= '9' ? sign - '0' : NONE;
        }

        private void skipBlanks(Row text) {
            while (place < text.size && sign(text) == BLANK) {
                place++;
            }
        }

        private boolean passes(Row text, int sign) {
            if (sign(text) != sign) {
                return false;
            }
            place++;
            return true;
        }

        private boolean passesStock(Row text, int side) {
            int v = figure(text);
            if (v < 0) {
                return false;
            }
            place++;
            int second = figure(text);
            if (second >= 0) {
                place++;
                v = 10 * v + second;
            }
            stocks[side] = v;
            return v <= SHEETS;
        }

        private boolean passesSuit(Row text) {
            int kind = kindBy(sign(text));
            if (kind < 0 || suits >= SUITS) {
                return false;
            }
            place++;
            int worth = figure(text);
            if (worth < 1) {
                return false;
            }
            place++;
            int more = NONE;
            if (kind >= DAMP) {
                more = figure(text);
                if (kind == HANGING ? more < 0 || more >= suits : more < 1) {
                    return false;
                }
                place++;
            }
            kinds[suits] = kind;
            worths[suits] = worth;
            figures[suits] = more;
            suits++;
            return true;
        }

        private static int kindBy(int letter) {
            switch (letter) {
                case 's':
                    return PLAIN;
                case 'o':
                    return OWN;
                case 'f':
                    return FLY;
                case 'd':
                    return DAMP;
                case 'p':
                    return PILE;
                case 'h':
                    return HANGING;
                default:
                    return NONE;
            }
        }
    }

    /** A Friday: two LAYINGS weighed against one another. */
    private static final class Scale {
        final int[] winners = new int[SUITS];
        final int[] leads = new int[SUITS];
        // SCORE of SIDE 0 by the SUITS ahead of each: SUITS that stay as they were need no new weighing
        private final int[] ahead = new int[SUITS + 1];
        int score;
        int won;

        /** Weighs anew from a SUIT on; the SUITS ahead of it must be as they were the last time. */
        void weigh(Court court, int[] own, int[] other, int from) {
            int end = Math.min(court.size, Math.min(own.length, other.length));
            for (int i = Math.max(from, 0); i < end && i < SUITS; i++) {
                Suit suit = court.suitOf(i);
                if (suit != null) {
                    int before = suit.aheadIn(winners);
                    int here = suit.weight(own[i], suit.extra(court.damp, before == HERE));
                    int there = suit.weight(other[i], suit.extra(court.damp, before == THERE));
                    winners[i] = suit.winner(here, there);
                    leads[i] = Math.abs(here - there);
                    ahead[i + 1] = ahead[i] + suit.points(HERE, winners[i]);
                }
            }
            score = end < 0 || end > SUITS ? 0 : ahead[end];
        }

        /** The SUITS that SIDE 0 WON. */
        int wonOf(int suits) {
            int set = 0;
            for (int i = 0; i < suits && i < SUITS; i++) {
                if (winners[i] == HERE) {
                    set |= 1 << i;
                }
            }
            return set;
        }
    }

    /** All LAYINGS of a STOCK, one after another: by SUITS, the fewest SHEETS first. */
    private static final class Layings {
        final int[] laid = new int[SUITS];
        private int size;
        private int left;

        void begin(int suits, int stock) {
            size = Math.min(suits, SUITS);
            left = stock;
            Arrays.fill(laid, 0);
        }

        /** Goes on to the next LAYING: the first SUIT that is unlike now; NONE: there is no more. */
        int next() {
            for (int i = size - 1; i >= 0; i--) {
                if (left > 0) {
                    laid[i]++;
                    left--;
                    return i;
                }
                left += laid[i];
                laid[i] = 0;
            }
            return NONE;
        }
    }

    /**
     * What SIDE 0 can have against a LAYING. Goes through all ways in which the SUITS may be WON, each by the
     * fewest SHEETS that do it: every LAYING that is best for its number of SHEETS is one of these.
     */
    private static final class Search {
        final int[] laying = new int[SUITS];
        int score;
        int sheets;
        private final int[] greatest = new int[SUITS * SHEETS + 1];
        private final int[] winners = new int[SUITS];
        private final int[] laid = new int[SUITS];
        private int limit;
        private int dampness;

        void run(Court court, int damp, int[] other, int most) {
            dampness = damp;
            limit = Math.min(most, SUITS * SHEETS);
            score = MISSING;
            sheets = 0;
            Arrays.fill(greatest, MISSING);
            Arrays.fill(laying, 0);
            Arrays.fill(laid, 0);
            branch(this, court, other, 0, 0, 0);
        }

        /** The greatest SCORE by so many SHEETS or fewer. */
        int mostBy(int stock) {
            int most = 0;
            for (int n = 0; n <= stock && n < greatest.length; n++) {
                most = Math.max(most, greatest[n]);
            }
            return most;
        }

        int fewestFor(int v) {
            for (int n = 0; n < greatest.length; n++) {
                if (greatest[n] >= v) {
                    return n;
                }
            }
            return NONE;
        }

        private static void branch(Search in, Court court, int[] other, int i, int used, int gained) {
            Suit suit = court.suitOf(i);
            if (suit == null || i >= SUITS || i >= other.length) {
                in.close(used, gained);
                return;
            }
            for (int winner = 0; winner < WINNERS; winner++) {
                int need = court.need(i, HERE, winner, other[i], in.dampness, in.winners);
                if (need >= 0 && need <= SHEETS && used + need <= in.limit) {
                    in.winners[i] = winner;
                    in.laid[i] = need;
                    branch(in, court, other, i + 1, used + need, gained + suit.points(HERE, winner));
                }
            }
        }

        private void close(int used, int gained) {
            if (used >= 0 && used < greatest.length && gained > greatest[used]) {
                greatest[used] = gained;
            }
            if (gained > score || gained == score && (used < sheets || used == sheets && isEarlier())) {
                score = gained;
                sheets = used;
                System.arraycopy(laid, 0, laying, 0, SUITS);
            }
        }

        private boolean isEarlier() {
            for (int i = 0; i < SUITS; i++) {
                if (laid[i] != laying[i]) {
                    return laid[i] < laying[i];
                }
            }
            return false;
        }
    }

    /** The worst that SIDE 1 can do to a LAYING of SIDE 0. */
    private static final class Dread {
        private final int[] winners = new int[SUITS];
        private int least;
        private int enough;

        /** SURE of a LAYING, or any number up to `floor` if it is no more than that. */
        int leastFor(Court court, int[] own, int floor) {
            least = MANY;
            enough = floor;
            branch(this, court, own, 0, court.stocks[THERE], 0);
            return least;
        }

        private static void branch(Dread in, Court court, int[] own, int i, int left, int gained) {
            // nothing that follows can make it less, or less is of no use
            if (gained >= in.least || in.least <= in.enough) {
                return;
            }
            Suit suit = court.suitOf(i);
            if (suit == null || i >= SUITS || i >= own.length) {
                in.least = gained;
                return;
            }
            for (int winner = 0; winner < WINNERS; winner++) {
                int need = court.need(i, THERE, winner, own[i], court.damp, in.winners);
                if (need >= 0 && need <= left) {
                    in.winners[i] = winner;
                    branch(in, court, own, i + 1, left - need, gained + suit.points(HERE, winner));
                }
            }
        }
    }

    /** Two LAYINGS of SIDE 0 against all of SIDE 1. */
    private static final class Mixing {
        private final Scale first = new Scale();
        private final Scale second = new Scale();
        // by the SCORE of the first LAYING the least that the second one has with it
        private final int[] least = new int[GREATEST_SCORE + 1];

        void weighAll(Court court, Layings layings, int[] a, int[] b) {
            Arrays.fill(least, MANY);
            layings.begin(court.size, court.stocks[THERE]);
            int from = 0;
            for (int step = 0; from >= 0 && step < MANY; step++) {
                first.weigh(court, a, layings.laid, from);
                second.weigh(court, b, layings.laid, from);
                if (first.score >= 0 && first.score < least.length) {
                    least[first.score] = Math.min(least[first.score], second.score);
                }
                from = layings.next();
            }
        }

        /** The least SCORE of q Fridays, the first LAYING being laid on p of them. */
        int leastBy(int p, int q) {
            int all = MANY;
            for (int score = 0; score < least.length; score++) {
                if (least[score] < MANY) {
                    all = Math.min(all, p * score + (q - p) * least[score]);
                }
            }
            return all;
        }

        int bestParts() {
            int best = 0;
            for (int p = 1; p <= MIX_PARTS; p++) {
                if (leastBy(p, MIX_PARTS) > leastBy(best, MIX_PARTS)) {
                    best = p;
                }
            }
            return best;
        }
    }

    /** IN TURN, from the last SUIT back: what SIDE 0 has more than SIDE 1, by the SHEETS that both have yet. */
    private static final class TurnTable {
        private final int[] values = new int[(SUITS + 1) * TURN_STEPS * TURN_STEPS];
        // by what SIDE 0 laid on the SUIT at hand and by who is to win it the fewest SHEETS of SIDE 1
        private final int[] needs = new int[TURN_STEPS * WINNERS];
        private boolean isFilled;
        private int answered;

        void forget() {
            isFilled = false;
        }

        int valueOf(Court court, int i, int a, int b) {
            fill(court);
            return value(i, a, b);
        }

        /** What SIDE 0 lays on SUIT 0. */
        int firstLaid(Court court, int a, int b) {
            Suit suit = court.suitOf(0);
            if (suit == null) {
                return 0;
            }
            fill(court);
            prepare(suit, court.damp);
            int value = value(0, a, b);
            for (int x = 0; x <= a; x++) {
                if (after(suit, 0, a - x, b, x) == value) {
                    return x;
                }
            }
            return 0;
        }

        int answerTo(Court court, int i, int a, int b, int x) {
            Suit suit = court.suitOf(i);
            if (suit == null) {
                return NONE;
            }
            fill(court);
            prepare(suit, court.damp);
            after(suit, i, a - x, b, x);
            return answered;
        }

        private void fill(Court court) {
            if (isFilled) {
                return;
            }
            Arrays.fill(values, 0);
            for (int i = court.size - 1; i >= 0; i--) {
                Suit suit = court.suitOf(i);
                if (suit != null) {
                    prepare(suit, court.damp);
                    fillSuit(suit, i);
                }
            }
            isFilled = true;
        }

        private void fillSuit(Suit suit, int i) {
            for (int a = 0; a < TURN_STEPS; a++) {
                for (int b = 0; b < TURN_STEPS; b++) {
                    int most = -MANY;
                    for (int x = 0; x <= a; x++) {
                        most = Math.max(most, after(suit, i, a - x, b, x));
                    }
                    int place = placeOf(i, a, b);
                    if (place >= 0) {
                        values[place] = most;
                    }
                }
            }
        }

        private void prepare(Suit suit, int damp) {
            int extra = suit.extra(damp, false);
            for (int x = 0; x < TURN_STEPS; x++) {
                for (int winner = 0; winner < WINNERS; winner++) {
                    needs[x * WINNERS + winner] = suit.need(THERE, winner, suit.weight(x, extra), extra);
                }
            }
        }

        /**
         * What comes of x SHEETS on SUIT i, if SIDE 1 answers well, by what both have behind it. More SHEETS yet
         * are never worse: of the answers that let the same one win, that of the fewest is the best.
         */
        private int after(Suit suit, int i, int leftHere, int b, int x) {
            int value = MANY;
            answered = 0;
            for (int winner = 0; winner < WINNERS; winner++) {
                int place = x * WINNERS + winner;
                int y = place >= 0 && place < needs.length ? needs[place] : NONE;
                if (y >= 0 && y <= b) {
                    int lead = suit.points(HERE, winner) - suit.points(THERE, winner);
                    int one = lead + value(i + 1, leftHere, b - y);
                    if (one < value || one == value && y < answered) {
                        value = one;
                        answered = y;
                    }
                }
            }
            return value;
        }

        private int value(int i, int a, int b) {
            int place = placeOf(i, a, b);
            return place < 0 ? 0 : values[place];
        }

        private static int placeOf(int i, int a, int b) {
            if (i < 0 || i > SUITS || a < 0 || a >= TURN_STEPS || b < 0 || b >= TURN_STEPS) {
                return NONE;
            }
            return (i * TURN_STEPS + a) * TURN_STEPS + b;
        }
    }

    /** RULES by which SIDE 1 may lay, and which of them FIT the NOTES. */
    private static final class Guess {
        // the LAYING by the RULE that was looked at last
        final int[] laid = new int[SUITS];
        private final Scale scale = new Scale();
        // LAYINGS for the NOTE that comes next, of the RULES that FIT
        private final int[][] next = new int[RULES][SUITS];
        private final Scale[] scales = new Scale[RULES];
        private final int[] sets = new int[RULES];
        private int fitting;

        Guess() {
            for (int which = 0; which < RULES; which++) {
                scales[which] = new Scale();
            }
        }

        void layBy(Court court, int which, int at) {
            Arrays.fill(laid, 0);
            int c = court.stocks[THERE];
            int n = Math.min(court.size, SUITS);
            if (n < 1) {
                return;
            }
            switch (which) {
                case EVEN:
                    layEven(n, c);
                    break;
                case BY_WORTH:
                    layByWorth(court, n, c);
                    break;
                case FIRST:
                    laid[0] = c;
                    break;
                case LAST:
                    laid[n - 1] = c;
                    break;
                case GREAT:
                    laid[greatestOf(court, n)] = c;
                    break;
                default:
                    layBack(court.laidAt(at - 1), n, c);
            }
        }

        private void layEven(int n, int c) {
            for (int i = 0; i < n; i++) {
                laid[i] = c / n + (i < c % n ? 1 : 0);
            }
        }

        private void layByWorth(Court court, int n, int c) {
            int all = court.worths();
            int left = c;
            for (int i = 0; i < n && all > 0; i++) {
                Suit suit = court.suitOf(i);
                laid[i] = suit == null ? 0 : c * suit.worth / all;
                left -= laid[i];
            }
            laid[0] += left;
        }

        private static int greatestOf(Court court, int n) {
            int great = 0;
            int worth = 0;
            for (int i = 0; i < n; i++) {
                Suit suit = court.suitOf(i);
                if (suit != null && suit.worth > worth) {
                    great = i;
                    worth = suit.worth;
                }
            }
            return great;
        }

        private void layBack(int[] seen, int n, int c) {
            int left = c;
            for (int i = 0; seen != null && i < n && i < seen.length; i++) {
                laid[i] = Math.min(seen[i], left);
                left -= laid[i];
            }
        }

        /** RULES that FIT, as bits. */
        int fitting(Court court) {
            int set = 0;
            for (int which = 0; which < RULES; which++) {
                if (fits(court, which)) {
                    set |= 1 << which;
                }
            }
            return set;
        }

        static int firstOf(int rules) {
            int which = 0;
            while (which < RULES - 1 && (rules >> which & 1) == 0) {
                which++;
            }
            return which;
        }

        private boolean fits(Court court, int which) {
            for (int k = 0; k < court.notes; k++) {
                int[] own = court.laidAt(k);
                if (own == null) {
                    return false;
                }
                layBy(court, which, k);
                scale.weigh(court, own, laid, 0);
                if (scale.wonOf(court.size) != court.wonAt(k)) {
                    return false;
                }
            }
            return true;
        }

        void prepare(Court court, int rules) {
            fitting = rules;
            for (int which = 0; which < RULES; which++) {
                layBy(court, which, court.notes);
                System.arraycopy(laid, 0, next[which], 0, SUITS);
            }
        }

        int unlikeLayings(Court court, int rules) {
            prepare(court, rules);
            for (int which = 0; which < RULES; which++) {
                sets[which] = firstLike(which);
            }
            return unlikeOnes();
        }

        /** The first RULE that tells the same LAYING. */
        private int firstLike(int which) {
            for (int one = 0; one < which; one++) {
                boolean isLike = (fitting >> one & 1) != 0;
                for (int i = 0; i < SUITS; i++) {
                    isLike = isLike && next[one][i] == next[which][i];
                }
                if (isLike) {
                    return one;
                }
            }
            return which;
        }

        /** How many unlike sets of SUITS are WON by a LAYING against the RULES that FIT. */
        int unlikeSets(Court court, int[] own, int from) {
            for (int which = 0; which < RULES; which++) {
                if ((fitting >> which & 1) != 0) {
                    scales[which].weigh(court, own, next[which], from);
                    sets[which] = scales[which].wonOf(court.size);
                }
            }
            return unlikeOnes();
        }

        private int unlikeOnes() {
            int n = 0;
            for (int which = 0; which < RULES; which++) {
                boolean isNew = (fitting >> which & 1) != 0;
                for (int one = 0; one < which; one++) {
                    isNew = isNew && ((fitting >> one & 1) == 0 || sets[one] != sets[which]);
                }
                if (isNew) {
                    n++;
                }
            }
            return n;
        }
    }
}
