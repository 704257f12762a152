/** Taxes by kite, as ../shared/DOC.md tells them; the promises' numbers stand in the tests. */
public final class KiteTaxes {
    public static final int BAD = -1, FULL = -2, FINDING = -3, STATE = -4, SPENT = -6, NONE = -9;

    private static final int NOTHING = 1, BEYOND = 2, UNLIKE = 3, NOUGHT = 4, SIZE = 5;
    private static final int KITE = 0, HANDKERCHIEF = 1, CHILDS = 2, BOX = 3, JUDGES = 4, STRINGLESS = 5;
    private static final int KIND_COUNT = 6, TAIL_COUNT = 4, LONGEST_TAIL = 3;
    private static final int ROW_COUNT = 6, ROW_ROOM = 40, TEXT_COUNT = 4, TEXT_ROOM = 60, KEPT_COUNT = 3;
    private static final int MOST_KITES = 6, KITE_SETS = 64, MOST_DEEDS = 40, DAY_HOURS = 4;
    private static final int MOST_WIND = 9, MOST_LIFTED = 99, MOST_CROSSED = 200;
    private static final int PLAN_HOURS = 5, TOLD_HOURS = 20, MOST_TURNS = 6, MOST_LOTS = 20, TWELVE = 12;
    private static final int COUNTS = 12, KITE_TOLDS = 7;
    private static final int BLANK = 32, LETTER_W = 119, FIGURE_0 = 48, NO_SIGN = -1000;
    private static final int DEED_FLOWN = 0, DEED_PASSED = 1, DEED_TIED = 2, DEED_CUT = 3, DEED_STEP = 8;
    private static final int FORBIDDEN = -1;
    private static final long LOT_FACTOR = 48271L, LOT_MODULUS = 2147483647L;

    private final Row[] rows = new Row[ROW_COUNT];
    private final Row[] texts = new Row[TEXT_COUNT];
    private final Parish[] kept = new Parish[KEPT_COUNT];
    private final Parish parish = new Parish();
    private final Parish draft = new Parish();
    private final Reader reader = new Reader();
    private final Flyings flyings = new Flyings();
    private final Pairing pairing = new Pairing();
    private final int[] findingCounts = new int[SIZE + 1];
    private int latestFinding = 0;
    private int told = 0;
    private long toldUpper = 0;
    private long toldLower = 1;

    public KiteTaxes() {
        for (int r = 0; r < rows.length; r++) {
            rows[r] = new Row(ROW_ROOM);
        }
        for (int t = 0; t < texts.length; t++) {
            texts[t] = new Row(TEXT_ROOM);
        }
        for (int k = 0; k < kept.length; k++) {
            kept[k] = new Parish();
        }
    }

    // ---- 1 rows, texts, parishes

    public int row(int r, int n) {
        return begin(pick(rows, r), n, 0);
    }

    public int lay(int r, int i, int v) {
        Row row = pick(rows, r);
        if (row == null) {
            return BAD;
        }
        if (!row.isThere()) {
            return found(NOTHING);
        }
        if (!row.holds(i)) {
            return found(BEYOND);
        }
        told = row.get(i);
        row.set(i, v);
        return 1;
    }

    public int at(int r, int i) {
        Row row = pick(rows, r);
        if (row == null) {
            return BAD;
        }
        if (!row.isThere()) {
            return found(NOTHING);
        }
        if (!row.holds(i)) {
            return found(BEYOND);
        }
        told = row.get(i);
        return 1;
    }

    public int tear(int r) {
        Row row = pick(rows, r);
        if (row == null) {
            return BAD;
        }
        if (!row.isThere()) {
            return found(NOTHING);
        }
        row.remove();
        return 1;
    }

    public int copy(int r, int i, int to, int j, int n) {
        Row from = pick(rows, r);
        Row into = pick(rows, to);
        if (from == null || into == null) {
            return BAD;
        }
        if (n < 0) {
            return found(SIZE);
        }
        if (!from.isThere() || !into.isThere()) {
            return found(NOTHING);
        }
        if (!from.spans(i, n) || !into.spans(j, n)) {
            return found(BEYOND);
        }
        System.arraycopy(from.places, i, into.places, j, n);
        return 1;
    }

    public int mean(int r) {
        Row row = pick(rows, r);
        if (row == null) {
            return BAD;
        }
        if (!row.isThere()) {
            return found(NOTHING);
        }
        if (row.size == 0) {
            return found(NOUGHT);
        }
        long sum = 0;
        for (int i = 0; i < row.size; i++) {
            sum += row.get(i);
        }
        told = (int) (sum / row.size);
        return 1;
    }

    public int text(int t, int n) {
        return begin(pick(texts, t), n, BLANK);
    }

    public int put(int t, int i, int v) {
        Row text = pick(texts, t);
        if (text == null) {
            return BAD;
        }
        if (!text.isThere()) {
            return found(NOTHING);
        }
        if (!text.holds(i)) {
            return found(BEYOND);
        }
        int before = text.get(i);
        text.set(i, (byte) v);
        return before + 1000;
    }

    public int fault(int t) {
        Row text = pick(texts, t);
        if (text == null) {
            return BAD;
        }
        if (!text.isThere()) {
            return found(NOTHING);
        }
        return reader.read(text, draft);
    }

    public int parish(int t) {
        Row text = pick(texts, t);
        if (text == null) {
            return BAD;
        }
        if (!text.isThere()) {
            return found(NOTHING);
        }
        if (reader.read(text, draft) != NONE) {
            return STATE;
        }
        parish.takeFrom(draft);
        for (int k = 0; k < kept.length; k++) {
            kept[k].kiteCount = 0;
        }
        return parish.kiteCount;
    }

    public int kite(int i, int what) {
        Kite kite = parish.kiteAt(i);
        if (kite == null || what < 0 || what >= KITE_TOLDS) {
            return BAD;
        }
        told = ofKite(kite, what);
        return 1;
    }

    public int mark(int i, int kind) {
        Kite kite = parish.kiteAt(i);
        if (kite == null || kind <= KITE || kind >= KIND_COUNT) {
            return BAD;
        }
        if (!kite.isOf(kind)) {
            return found(UNLIKE);
        }
        int wind = parish.windIn(0);
        switch (kind) {
            case HANDKERCHIEF:
                return 100 + kite.liftAs(KITE, kite.tail, wind) - kite.liftIn(wind);
            case CHILDS:
                return greatestWindLifting(kite);
            case BOX:
                return kite.liftIn(wind) - kite.liftAs(KITE, kite.tail, wind);
            case JUDGES:
                return windsAboveHandkerchief(kite);
            default:
                return leastWindLifted(kite);
        }
    }

    public int lifts(int i, int wind) {
        Kite kite = parish.kiteAt(i);
        if (kite == null || !isWind(wind)) {
            return BAD;
        }
        return kite.liftIn(wind);
    }

    public int pays(int i, int wind) {
        Kite kite = parish.kiteAt(i);
        if (kite == null || !isWind(wind)) {
            return BAD;
        }
        return kite.isLiftedIn(wind) ? NONE : kite.payIn(wind);
    }

    // ---- 2 deeds

    public int fly(int i) {
        Kite kite = parish.kiteAt(i);
        if (kite == null) {
            return BAD;
        }
        if (kite.wasFlown()) {
            return STATE;
        }
        if (parish.isFull()) {
            return FULL;
        }
        parish.doFly(i);
        return kite.paid;
    }

    public int rest() {
        if (parish.isEmpty()) {
            return STATE;
        }
        if (parish.isFull()) {
            return FULL;
        }
        parish.doPass();
        return parish.hour;
    }

    public int tie(int i) {
        Kite kite = parish.kiteAt(i);
        if (kite == null) {
            return BAD;
        }
        if (kite.tail >= LONGEST_TAIL) {
            return STATE;
        }
        if (parish.isFull()) {
            return FULL;
        }
        parish.doTie(i);
        return kite.tail;
    }

    public int cut(int i) {
        Kite kite = parish.kiteAt(i);
        if (kite == null) {
            return BAD;
        }
        if (kite.tail <= 0) {
            return STATE;
        }
        if (parish.isFull()) {
            return FULL;
        }
        parish.doCut(i);
        return kite.tail;
    }

    public int undo(int n) {
        if (n < 0 || n > parish.deedCount) {
            return BAD;
        }
        int undone = parish.deedCount - n;
        for (int k = 0; k < undone; k++) {
            parish.undoLatest();
        }
        return undone;
    }

    public int keep(int k) {
        if (k < 0 || k >= kept.length) {
            return BAD;
        }
        if (parish.isEmpty()) {
            return STATE;
        }
        kept[k].takeFrom(parish);
        return parish.deedCount;
    }

    public int on(int k) {
        if (k < 0 || k >= kept.length) {
            return BAD;
        }
        if (kept[k].isEmpty()) {
            return found(NOTHING);
        }
        parish.takeFrom(kept[k]);
        return parish.deedCount;
    }

    // ---- 3 flyings

    public int most(int n, int r) {
        Row into = pick(rows, r);
        if (into == null || n < 0 || n > PLAN_HOURS) {
            return BAD;
        }
        if (parish.isEmpty()) {
            return STATE;
        }
        int best = flyings.weighMost(parish, n);
        flyings.tellFirst(parish, n, into);
        return best;
    }

    public int school(int r) {
        Row into = pick(rows, r);
        if (into == null) {
            return BAD;
        }
        if (parish.isEmpty()) {
            return STATE;
        }
        for (int n = 0; n <= PLAN_HOURS; n++) {
            if (parish.paid + flyings.weighMost(parish, n) >= parish.wanted) {
                flyings.tellFirst(parish, n, into);
                return n;
            }
        }
        return NONE;
    }

    public int flown(int r) {
        Row plan = pick(rows, r);
        if (plan == null) {
            return BAD;
        }
        if (parish.isEmpty()) {
            return STATE;
        }
        if (!plan.isThere()) {
            return found(NOTHING);
        }
        if (plan.size > TOLD_HOURS) {
            return found(SIZE);
        }
        if (!isFlying(plan)) {
            return found(UNLIKE);
        }
        int paid = 0;
        int lifted = 0;
        for (int h = 0; h < plan.size; h++) {
            Kite kite = parish.kiteAt(plan.get(h));
            if (kite != null) {
                int wind = parish.windIn(h);
                paid += kite.payIn(wind);
                lifted |= kite.isLiftedIn(wind) ? 1 << plan.get(h) : 0;
            }
        }
        told = lifted;
        return paid;
    }

    public int when(int i) {
        Kite kite = parish.kiteAt(i);
        if (kite == null) {
            return BAD;
        }
        int best = 0;
        for (int h = 1; h < DAY_HOURS; h++) {
            if (kite.payIn(parish.windIn(h)) > kite.payIn(parish.windIn(best))) {
                best = h;
            }
        }
        told = kite.payIn(parish.windIn(best));
        return best;
    }

    // ---- 4 crossings

    public int cross(int i, int j, int wind) {
        if (parish.kiteAt(i) == null || parish.kiteAt(j) == null || i == j || !isWind(wind)) {
            return BAD;
        }
        return parish.crossLift(i, j, wind);
    }

    public int crossed(int v, int wind) {
        if (v < 0 || v > MOST_CROSSED || !isWind(wind)) {
            return BAD;
        }
        if (parish.isEmpty()) {
            return STATE;
        }
        int pairs = 0;
        int first = 0;
        for (int i = 0; i < parish.kiteCount; i++) {
            for (int j = i + 1; j < parish.kiteCount; j++) {
                if (parish.crossLift(i, j, wind) == v) {
                    first = pairs == 0 ? 10 * i + j : first;
                    pairs++;
                }
            }
        }
        if (pairs == 0) {
            return NONE;
        }
        told = first;
        return pairs;
    }

    public int merge(int wind, int r) {
        Row into = pick(rows, r);
        if (into == null || !isWind(wind)) {
            return BAD;
        }
        if (parish.isEmpty()) {
            return STATE;
        }
        int best = pairing.weigh(parish, wind);
        pairing.tellFirst(parish, wind, into);
        return best;
    }

    // ---- 5 what a kite is

    public int tails(int i, int r) {
        Kite kite = parish.kiteAt(i);
        Row pairs = pick(rows, r);
        if (kite == null || pairs == null) {
            return BAD;
        }
        int finding = findingOfPairs(pairs);
        if (finding != 0) {
            return found(finding);
        }
        int fitting = 0;
        for (int tail = 0; tail < TAIL_COUNT; tail++) {
            fitting |= fits(kite, kite.kind, tail, pairs) ? 1 << tail : 0;
        }
        return fitting;
    }

    public int kinds(int i, int r) {
        Kite kite = parish.kiteAt(i);
        Row pairs = pick(rows, r);
        if (kite == null || pairs == null) {
            return BAD;
        }
        int finding = findingOfPairs(pairs);
        return finding != 0 ? found(finding) : fittingKinds(kite, pairs);
    }

    public int test(int i, int r) {
        Kite kite = parish.kiteAt(i);
        Row pairs = pick(rows, r);
        if (kite == null || pairs == null) {
            return BAD;
        }
        int finding = findingOfPairs(pairs);
        if (finding != 0) {
            return found(finding);
        }
        int fitting = fittingKinds(kite, pairs);
        if (fitting == 0) {
            return NONE;
        }
        int best = 0;
        int least = greatestPart(kite, fitting, 0);
        for (int wind = 1; wind <= MOST_WIND; wind++) {
            int part = greatestPart(kite, fitting, wind);
            if (part < least) {
                least = part;
                best = wind;
            }
        }
        told = least;
        return best;
    }

    // ---- 6 by turns

    public int duel(int n) {
        if (n < 0 || n > MOST_TURNS) {
            return BAD;
        }
        if (parish.isEmpty()) {
            return STATE;
        }
        return flyings.weighDuel(parish, n);
    }

    // ---- 7 chances, lots

    public int odds(int p) {
        if (p < 0 || p > TWELVE) {
            return BAD;
        }
        if (parish.isEmpty()) {
            return STATE;
        }
        int hours = parish.kiteCount - Integer.bitCount(parish.flownSet());
        long all = 1;
        for (int h = 0; h < hours; h++) {
            all *= TWELVE;
        }
        long enough = 0;
        for (int calms = 0; calms < 1 << hours; calms++) {
            if (parish.paid + paidWithCalms(calms) >= parish.wanted) {
                enough += weightOfCalms(calms, hours, p);
            }
        }
        tellParts(enough, all);
        return 1;
    }

    public int mid(int p) {
        if (p < 0 || p > TWELVE) {
            return BAD;
        }
        if (parish.isEmpty()) {
            return STATE;
        }
        long windy = paidWithCalms(0);
        long calm = paidWithCalms(KITE_SETS - 1);
        tellParts((long) TWELVE * parish.paid + (TWELVE - p) * windy + p * calm, TWELVE);
        return 1;
    }

    public int lots(int n, int seed) {
        if (n < 1 || n > MOST_LOTS || seed < 1 || seed >= LOT_MODULUS) {
            return BAD;
        }
        if (parish.isEmpty()) {
            return STATE;
        }
        if (parish.deedCount + n > MOST_DEEDS) {
            return FULL;
        }
        long number = seed;
        for (int k = 0; k < n; k++) {
            number = number * LOT_FACTOR % LOT_MODULUS;
            doByLot(number);
        }
        return parish.paid;
    }

    // ---- 8 what is told

    public int asked() {
        return told;
    }

    public long upper() {
        return toldUpper;
    }

    public long lower() {
        return toldLower;
    }

    public int count(int what) {
        switch (what) {
            case 0:
                return parish.kiteCount;
            case 1:
                return parish.hour;
            case 2:
                return parish.deedCount;
            case 3:
                return parish.windIn(0);
            case 4:
                return parish.flownSet();
            case 5:
                return parish.liftedSet();
            case 6:
                return parish.paid;
            case 7:
                return parish.wanted;
            case 8:
                return thoseThere(rows);
            case 9:
                return thoseThere(texts);
            case 10:
                return keptParishes();
            case 11:
                return parish.boxes();
            default:
                return BAD;
        }
    }

    public int finding() {
        return latestFinding;
    }

    public int findings(int f) {
        if (f < NOTHING || f >= findingCounts.length) {
            return BAD;
        }
        return findingCounts[f];
    }

    public long digest() {
        long h = 17;
        for (int what = 0; what < COUNTS; what++) {
            h = 31 * h + count(what);
        }
        for (int i = 0; i < parish.winds.length; i++) {
            h = 31 * h + parish.winds[i];
        }
        for (int i = 0; i < parish.kiteCount; i++) {
            Kite kite = parish.kiteAt(i);
            for (int what = 0; kite != null && what < KITE_TOLDS; what++) {
                h = 31 * h + ofKite(kite, what);
            }
        }
        for (int k = 0; k < kept.length; k++) {
            h = 31 * h + (kept[k].isEmpty() ? -1 : kept[k].deedCount);
        }
        return digestOf(texts, digestOf(rows, h));
    }

    // ---- helpers of the face

    private int found(int which) {
        if (which >= 0 && which < findingCounts.length) {
            latestFinding = which;
            findingCounts[which]++;
        }
        return FINDING;
    }

    private static Row pick(Row[] from, int r) {
        return r >= 0 && r < from.length ? from[r] : null;
    }

    private int begin(Row row, int n, int value) {
        if (row == null || n > row.places.length) {
            return BAD;
        }
        if (n < 0) {
            return found(SIZE);
        }
        row.begin(n, value);
        return n;
    }

    private static boolean isWind(int wind) {
        return wind >= 0 && wind <= MOST_WIND;
    }

    private int ofKite(Kite kite, int what) {
        int wind = parish.windIn(0);
        switch (what) {
            case 0:
                return kite.kind;
            case 1:
                return kite.wide;
            case 2:
                return kite.heavy;
            case 3:
                return kite.tail;
            case 4:
                return kite.liftIn(wind);
            case 5:
                return kite.payIn(wind);
            default:
                return kite.paid;
        }
    }

    private static int greatestWindLifting(Kite kite) {
        for (int wind = MOST_WIND; wind >= 0; wind--) {
            if (kite.liftIn(wind) > 0) {
                return wind;
            }
        }
        return NONE;
    }

    private static int windsAboveHandkerchief(Kite kite) {
        int winds = 0;
        for (int wind = 0; wind <= MOST_WIND; wind++) {
            if (kite.liftIn(wind) > kite.liftAs(HANDKERCHIEF, kite.tail, wind)) {
                winds++;
            }
        }
        return winds;
    }

    private static int leastWindLifted(Kite kite) {
        for (int wind = 0; wind <= MOST_WIND; wind++) {
            if (kite.isLiftedIn(wind)) {
                return wind;
            }
        }
        return NONE;
    }

    private boolean isFlying(Row plan) {
        int used = parish.flownSet();
        for (int h = 0; h < plan.size; h++) {
            int i = plan.get(h);
            if (i == NONE) {
                continue;
            }
            if (parish.kiteAt(i) == null || (used >> i & 1) == 1) {
                return false;
            }
            used |= 1 << i;
        }
        return true;
    }

    private static int findingOfPairs(Row pairs) {
        if (!pairs.isThere()) {
            return NOTHING;
        }
        if (pairs.size % 2 != 0) {
            return SIZE;
        }
        for (int i = 0; i < pairs.size; i += 2) {
            int lifted = pairs.get(i + 1);
            if (!isWind(pairs.get(i)) || lifted < 0 || lifted > MOST_LIFTED) {
                return UNLIKE;
            }
        }
        return 0;
    }

    private static boolean fits(Kite kite, int kind, int tail, Row pairs) {
        for (int i = 0; i < pairs.size; i += 2) {
            if (kite.liftAs(kind, tail, pairs.get(i)) != pairs.get(i + 1)) {
                return false;
            }
        }
        return true;
    }

    private static int fittingKinds(Kite kite, Row pairs) {
        int fitting = 0;
        for (int kind = 0; kind < KIND_COUNT; kind++) {
            fitting |= fits(kite, kind, kite.tail, pairs) ? 1 << kind : 0;
        }
        return fitting;
    }

    private static int greatestPart(Kite kite, int kindSet, int wind) {
        int greatest = 0;
        for (int kind = 0; kind < KIND_COUNT; kind++) {
            if ((kindSet >> kind & 1) == 1) {
                greatest = Math.max(greatest, liftingAlike(kite, kindSet, wind, kind));
            }
        }
        return greatest;
    }

    private static int liftingAlike(Kite kite, int kindSet, int wind, int kind) {
        int lift = kite.liftAs(kind, kite.tail, wind);
        int alike = 0;
        for (int other = 0; other < KIND_COUNT; other++) {
            if ((kindSet >> other & 1) == 1 && kite.liftAs(other, kite.tail, wind) == lift) {
                alike++;
            }
        }
        return alike;
    }

    /** What all KITES that were not flown pay, flown by numbers; bit h of calms: HOUR h from now is calm. */
    private int paidWithCalms(int calms) {
        int paid = 0;
        int h = 0;
        for (int i = 0; i < parish.kiteCount; i++) {
            Kite kite = parish.kiteAt(i);
            if (kite != null && !kite.wasFlown()) {
                paid += kite.payIn((calms >> h & 1) == 1 ? 0 : parish.windIn(h));
                h++;
            }
        }
        return paid;
    }

    private static long weightOfCalms(int calms, int hours, int p) {
        long weight = 1;
        for (int h = 0; h < hours; h++) {
            weight *= (calms >> h & 1) == 1 ? p : TWELVE - p;
        }
        return weight;
    }

    private void tellParts(long up, long low) {
        long divisor = greatestDivisor(up, low);
        if (divisor > 0) {
            toldUpper = up / divisor;
            toldLower = low / divisor;
        }
    }

    private static long greatestDivisor(long a, long b) {
        long greater = a;
        long rest = b;
        // Euclid's way ends within some 90 steps for any two longs
        for (int k = 0; k < 200 && rest != 0; k++) {
            long next = greater % rest;
            greater = rest;
            rest = next;
        }
        return greater;
    }

    private void doByLot(long number) {
        if (parish.kiteCount <= 0) {
            return;
        }
        int i = (int) (number / 8 % parish.kiteCount);
        Kite kite = parish.kiteAt(i);
        if (kite == null) {
            return;
        }
        if (!kite.wasFlown()) {
            parish.doFly(i);
        } else if (kite.tail < LONGEST_TAIL && number % 2 == 0) {
            parish.doTie(i);
        } else {
            parish.doPass();
        }
    }

    private static int thoseThere(Row[] from) {
        int there = 0;
        for (int r = 0; r < from.length; r++) {
            if (from[r].isThere()) {
                there++;
            }
        }
        return there;
    }

    private int keptParishes() {
        int there = 0;
        for (int k = 0; k < kept.length; k++) {
            if (!kept[k].isEmpty()) {
                there++;
            }
        }
        return there;
    }

    private static long digestOf(Row[] from, long before) {
        long h = before;
        for (int r = 0; r < from.length; r++) {
            h = 31 * h + from[r].size;
            for (int i = 0; i < from[r].size; i++) {
                h = 31 * h + from[r].get(i);
            }
        }
        return h;
    }

    /** A ROW or a TEXT. Its room is made once, so that no call makes an array. */
    private static final class Row {
        final int[] places;
        // -1 is what the digest tells of a missing one
        int size = -1;

        Row(int room) {
            places = new int[Math.max(0, room)];
        }

        boolean isThere() {
            return size >= 0;
        }

        boolean holds(int i) {
            return i >= 0 && i < size && i < places.length;
        }

        boolean spans(int i, int n) {
            // n is held against what is left, as i + n may go beyond the ints
            return i >= 0 && n >= 0 && i <= size && n <= size - i;
        }

        int get(int i) {
            return holds(i) ? places[i] : 0;
        }

        void set(int i, int v) {
            if (holds(i)) {
                places[i] = v;
            }
        }

        void begin(int n, int value) {
            size = Math.max(0, Math.min(n, places.length));
            for (int i = 0; i < size; i++) {
                set(i, value);
            }
        }

        void remove() {
            size = -1;
        }
    }

    /** One KITE: how it is, and what it PAID. */
    private static final class Kite {
        int kind;
        int wide;
        int heavy;
        int tail;
        int paid = NONE;
        boolean wasLifted;

        void takeFrom(Kite other) {
            kind = other.kind;
            wide = other.wide;
            heavy = other.heavy;
            tail = other.tail;
            paid = other.paid;
            wasLifted = other.wasLifted;
        }

        boolean isOf(int someKind) {
            return someKind == KITE || someKind == kind
                || someKind == HANDKERCHIEF && kind == JUDGES
                || someKind == BOX && kind == STRINGLESS;
        }

        boolean wasFlown() {
            return paid != NONE;
        }

        int liftIn(int wind) {
            return liftAs(kind, tail, wind);
        }

        int liftAs(int someKind, int someTail, int wind) {
            int half = wide * wind / 2;
            int plain = half > 2 * someTail ? half - 2 * someTail : 0;
            int box = wind >= 3 ? half + 2 : half;
            switch (someKind) {
                case HANDKERCHIEF:
                    return plain / 3;
                case CHILDS:
                    return wind > 6 ? 0 : plain / 2;
                case BOX:
                    return box;
                case JUDGES:
                    return plain < 3 ? 1 : plain / 3;
                case STRINGLESS:
                    return box + wind;
                default:
                    return plain;
            }
        }

        boolean isLiftedIn(int wind) {
            return isTooMuch(liftIn(wind));
        }

        int payIn(int wind) {
            int lift = liftIn(wind);
            return isTooMuch(lift) ? 0 : lift;
        }

        private boolean isTooMuch(int lift) {
            return lift > 4 * heavy;
        }
    }

    /** A PARISH with its DEEDS; without KITES it is none (or, of the kept ones, missing). */
    private static final class Parish {
        final int[] winds = new int[DAY_HOURS];
        final Kite[] kites = new Kite[MOST_KITES];
        final int[] deeds = new int[MOST_DEEDS];
        int kiteCount;
        int wanted;
        int hour;
        int deedCount;
        int paid;

        Parish() {
            for (int i = 0; i < kites.length; i++) {
                kites[i] = new Kite();
            }
        }

        void takeFrom(Parish other) {
            System.arraycopy(other.winds, 0, winds, 0, DAY_HOURS);
            System.arraycopy(other.deeds, 0, deeds, 0, MOST_DEEDS);
            for (int i = 0; i < kites.length; i++) {
                kites[i].takeFrom(other.kites[i]);
            }
            kiteCount = other.kiteCount;
            wanted = other.wanted;
            hour = other.hour;
            deedCount = other.deedCount;
            paid = other.paid;
        }

        boolean isEmpty() {
            return kiteCount == 0;
        }

        boolean isFull() {
            return deedCount >= MOST_DEEDS;
        }

        Kite kiteAt(int i) {
            return i >= 0 && i < kiteCount && i < kites.length ? kites[i] : null;
        }

        int windIn(int hours) {
            return winds[Math.floorMod(hour + hours, DAY_HOURS)];
        }

        int liftOf(int i, int wind) {
            Kite kite = kiteAt(i);
            return kite == null ? 0 : kite.liftIn(wind);
        }

        int crossLift(int i, int j, int wind) {
            int one = liftOf(i, wind);
            int other = liftOf(j, wind);
            return one > 0 && other > 0 ? one + other + 3 : one + other;
        }

        int flownSet() {
            int set = 0;
            for (int i = 0; i < kiteCount; i++) {
                Kite kite = kiteAt(i);
                set |= kite != null && kite.wasFlown() ? 1 << i : 0;
            }
            return set;
        }

        int liftedSet() {
            int set = 0;
            for (int i = 0; i < kiteCount; i++) {
                Kite kite = kiteAt(i);
                set |= kite != null && kite.wasLifted ? 1 << i : 0;
            }
            return set;
        }

        int boxes() {
            int found = 0;
            for (int i = 0; i < kiteCount; i++) {
                Kite kite = kiteAt(i);
                found += kite != null && kite.isOf(BOX) ? 1 : 0;
            }
            return found;
        }

        void doFly(int i) {
            Kite kite = kiteAt(i);
            if (kite == null || kite.wasFlown() || isFull()) {
                return;
            }
            kite.paid = kite.payIn(windIn(0));
            kite.wasLifted = kite.isLiftedIn(windIn(0));
            paid += kite.paid;
            hour++;
            note(DEED_FLOWN, i);
        }

        void doPass() {
            if (isFull()) {
                return;
            }
            hour++;
            note(DEED_PASSED, 0);
        }

        void doTie(int i) {
            Kite kite = kiteAt(i);
            if (kite == null || isFull()) {
                return;
            }
            kite.tail++;
            note(DEED_TIED, i);
        }

        void doCut(int i) {
            Kite kite = kiteAt(i);
            if (kite == null || isFull()) {
                return;
            }
            kite.tail--;
            note(DEED_CUT, i);
        }

        private void note(int deed, int i) {
            if (deedCount >= 0 && deedCount < deeds.length) {
                deeds[deedCount] = DEED_STEP * deed + i;
                deedCount++;
            }
        }

        void undoLatest() {
            if (deedCount <= 0 || deedCount > deeds.length) {
                return;
            }
            deedCount--;
            int deed = deeds[deedCount] / DEED_STEP;
            Kite kite = kiteAt(deeds[deedCount] % DEED_STEP);
            if (deed == DEED_FLOWN || deed == DEED_PASSED) {
                hour--;
            }
            if (kite == null) {
                return;
            }
            if (deed == DEED_FLOWN) {
                paid -= kite.paid;
                kite.paid = NONE;
                kite.wasLifted = false;
            } else if (deed == DEED_TIED) {
                kite.tail--;
            } else if (deed == DEED_CUT) {
                kite.tail++;
            }
        }
    }

    /** Reads the small language of a PARISH. Where it stops is the FAULT, the TEXT's end as well. */
    private static final class Reader {
        private int place;

        int read(Row text, Parish into) {
            place = 0;
            return readWinds(text, into) && readKites(text, into) ? NONE : place;
        }

        private boolean readWinds(Row text, Parish into) {
            skipBlanks(text);
            if (sign(text) != LETTER_W) {
                return false;
            }
            place++;
            for (int h = 0; h < into.winds.length; h++) {
                into.winds[h] = readFigure(text, 0, 9);
                if (into.winds[h] < 0) {
                    return false;
                }
            }
            int tens = readFigure(text, 0, 9);
            int ones = tens < 0 ? tens : readFigure(text, 0, 9);
            into.wanted = 10 * tens + ones;
            return ones >= 0;
        }

        private boolean readKites(Row text, Parish into) {
            into.kiteCount = 0;
            skipBlanks(text);
            for (int i = 0; i < into.kites.length && place < text.size; i++) {
                if (!readKite(text, into.kites[i])) {
                    return false;
                }
                into.kiteCount++;
                skipBlanks(text);
            }
            return into.kiteCount > 0 && place == text.size;
        }

        private boolean readKite(Row text, Kite into) {
            into.kind = kindOf(sign(text));
            if (into.kind < 0) {
                return false;
            }
            place++;
            into.wide = readFigure(text, 1, 9);
            if (into.wide < 0) {
                return false;
            }
            into.heavy = readFigure(text, 0, 9);
            if (into.heavy < 0) {
                return false;
            }
            into.tail = readFigure(text, 0, LONGEST_TAIL);
            return into.tail >= 0;
        }

        private int readFigure(Row text, int least, int greatest) {
            int figure = sign(text) - FIGURE_0;
            if (figure < least || figure > greatest) {
                return -1;
            }
            place++;
            return figure;
        }

        private void skipBlanks(Row text) {
            while (place < text.size && text.get(place) == BLANK) {
                place++;
            }
        }

        private int sign(Row text) {
            return text.holds(place) ? text.places[place] : NO_SIGN;
        }

        private static int kindOf(int letter) {
            switch (letter) {
                case 107:
                    return KITE;
                case 104:
                    return HANDKERCHIEF;
                case 99:
                    return CHILDS;
                case 98:
                    return BOX;
                case 106:
                    return JUDGES;
                case 115:
                    return STRINGLESS;
                default:
                    return -1;
            }
        }
    }

    /** Weighs flyings aside from the last HOUR back, by the set of KITES that are used up ahead of each. */
    private static final class Flyings {
        private final int[][] gains = new int[MOST_TURNS][MOST_KITES];
        private final int[][] worths = new int[MOST_TURNS + 1][KITE_SETS];
        private int kiteCount;

        int weighMost(Parish parish, int hours) {
            return weigh(parish, hours, false);
        }

        int weighDuel(Parish parish, int turns) {
            return weigh(parish, turns, true);
        }

        void tellFirst(Parish parish, int hours, Row into) {
            into.begin(hours, NONE);
            int used = parish.flownSet();
            for (int h = 0; h < hours; h++) {
                int i = firstBest(h, used);
                into.set(h, i);
                used |= i == NONE ? 0 : 1 << i;
            }
        }

        private int firstBest(int h, int used) {
            int best = worth(h, used);
            if (best == worth(h + 1, used)) {
                return NONE;
            }
            for (int i = 0; i < kiteCount; i++) {
                if (isFree(h, i, used) && gains[h][i] + worth(h + 1, used | 1 << i) == best) {
                    return i;
                }
            }
            return NONE;
        }

        private int weigh(Parish parish, int hours, boolean isDuel) {
            if (hours < 0 || hours > MOST_TURNS) {
                return 0;
            }
            kiteCount = Math.min(parish.kiteCount, MOST_KITES);
            fillGains(parish, hours, isDuel);
            for (int used = 0; used < KITE_SETS; used++) {
                worths[hours][used] = 0;
            }
            for (int h = hours - 1; h >= 0; h--) {
                boolean isLittle = isDuel && h % 2 == 1;
                for (int used = 0; used < 1 << kiteCount; used++) {
                    worths[h][used] = bestOf(h, used, isLittle);
                }
            }
            return worth(0, parish.flownSet());
        }

        private void fillGains(Parish parish, int hours, boolean mayLift) {
            for (int h = 0; h < hours; h++) {
                int wind = parish.windIn(h);
                for (int i = 0; i < kiteCount; i++) {
                    Kite kite = parish.kiteAt(i);
                    boolean isOut = kite == null || !mayLift && kite.isLiftedIn(wind);
                    gains[h][i] = isOut ? FORBIDDEN : kite.payIn(wind);
                }
            }
        }

        private int bestOf(int h, int used, boolean isLittle) {
            int best = worth(h + 1, used);
            for (int i = 0; i < kiteCount; i++) {
                if (isFree(h, i, used)) {
                    int worth = gains[h][i] + worth(h + 1, used | 1 << i);
                    best = isLittle ? Math.min(best, worth) : Math.max(best, worth);
                }
            }
            return best;
        }

        private boolean isFree(int h, int i, int used) {
            return h >= 0 && h < MOST_TURNS && i >= 0 && i < MOST_KITES
                && (used >> i & 1) == 0 && gains[h][i] != FORBIDDEN;
        }

        private int worth(int h, int used) {
            return h >= 0 && h <= MOST_TURNS && used >= 0 && used < KITE_SETS ? worths[h][used] : 0;
        }
    }

    /** Weighs all ways to cross KITES in pairs, by the set of those that are paired (or left) already. */
    private static final class Pairing {
        private final int[] worths = new int[KITE_SETS];

        int weigh(Parish parish, int wind) {
            int all = (1 << Math.min(parish.kiteCount, MOST_KITES)) - 1;
            worths[all] = 0;
            for (int set = all - 1; set >= 0; set--) {
                worths[set] = bestOf(parish, wind, set);
            }
            return worths[0];
        }

        void tellFirst(Parish parish, int wind, Row into) {
            into.begin(parish.kiteCount, NONE);
            int set = 0;
            for (int i = 0; i < parish.kiteCount; i++) {
                if ((set >> i & 1) == 1) {
                    continue;
                }
                set |= 1 << i;
                int j = firstBest(parish, wind, set, i);
                if (j != NONE) {
                    into.set(i, j);
                    into.set(j, i);
                    set |= 1 << j;
                }
            }
        }

        private int bestOf(Parish parish, int wind, int set) {
            int i = firstOut(parish, set);
            int with = set | 1 << i;
            int best = mayLeave(parish, set) ? worth(with) : 0;
            for (int j = i + 1; j < parish.kiteCount; j++) {
                if ((set >> j & 1) == 0) {
                    best = Math.max(best, parish.crossLift(i, j, wind) + worth(with | 1 << j));
                }
            }
            return best;
        }

        private int firstBest(Parish parish, int wind, int with, int i) {
            int before = with & ~(1 << i);
            if (mayLeave(parish, before) && worth(with) == worth(before)) {
                return NONE;
            }
            for (int j = i + 1; j < parish.kiteCount; j++) {
                if ((with >> j & 1) == 0
                    && parish.crossLift(i, j, wind) + worth(with | 1 << j) == worth(before)) {
                    return j;
                }
            }
            return NONE;
        }

        private static int firstOut(Parish parish, int set) {
            for (int i = 0; i < parish.kiteCount; i++) {
                if ((set >> i & 1) == 0) {
                    return i;
                }
            }
            return 0;
        }

        private static boolean mayLeave(Parish parish, int set) {
            // one can be left only while those that remain are of an odd number
            return (parish.kiteCount - Integer.bitCount(set)) % 2 != 0;
        }

        private int worth(int set) {
            return set >= 0 && set < KITE_SETS ? worths[set] : 0;
        }
    }
}
