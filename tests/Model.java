import java.math.BigInteger;
import java.util.ArrayList;
import java.util.Arrays;
import java.util.List;
import java.util.TreeMap;
import java.util.Map;
import java.util.regex.Matcher;
import java.util.regex.Pattern;

/**
 * The document once more, as slow and plain as can be: state is the text of the PARISH and its list of DEEDS,
 * gone through anew at each call; every best row is found by trying all rows. It shares nothing with the class.
 */
final class Model {
    private static final Pattern LANGUAGE = Pattern.compile(" *w[0-9]{6} *([khcbjs][1-9][0-9][0-3] *){1,6}");
    private static final String LETTERS = "khcbjs";

    private final Map<Integer, List<Integer>> rows = new TreeMap<>();
    private final Map<Integer, List<Integer>> texts = new TreeMap<>();
    private final Map<Integer, List<String>> kept = new TreeMap<>();
    private final int[] findings = new int[6];
    private String source = "";
    private List<String> deeds = new ArrayList<>();
    private int finding = 0;
    private int asked = 0;
    private BigInteger upper = BigInteger.ZERO;
    private BigInteger lower = BigInteger.ONE;

    /** What the DEEDS have come to. */
    private final class Now {
        final List<int[]> kites = new ArrayList<>(); // kind, wide, heavy, tail
        final Map<Integer, Integer> paid = new TreeMap<>();
        int hour = 0;
        int lifted = 0;

        Now() {
            for (int at = source.indexOf('w') + 7; at > 6 && at < source.length(); at++) {
                int kind = LETTERS.indexOf(source.charAt(at));
                if (kind >= 0) {
                    kites.add(new int[] {kind, figure(at + 1), figure(at + 2), figure(at + 3)});
                    at += 3;
                }
            }
            for (String deed : deeds) {
                apply(deed.charAt(0), deed.charAt(1) - '0');
            }
        }

        private void apply(char what, int i) {
            switch (what) {
                case 'f' -> {
                    paid.put(i, pay(kites.get(i), wind(0)));
                    lifted |= isLifted(kites.get(i), wind(0)) ? 1 << i : 0;
                    hour++;
                }
                case 'r' -> hour++;
                case 't' -> kites.get(i)[3]++;
                default -> kites.get(i)[3]--;
            }
        }

        int wind(int later) {
            return figure(source.indexOf('w') + 1 + (hour + later) % 4);
        }

        int total() {
            return paid.values().stream().mapToInt(Integer::intValue).sum();
        }

        List<Integer> unflown() {
            List<Integer> found = new ArrayList<>();
            for (int i = 0; i < kites.size(); i++) {
                if (!paid.containsKey(i)) {
                    found.add(i);
                }
            }
            return found;
        }
    }

    private int figure(int at) {
        return source.charAt(at) - '0';
    }

    private int wanted() {
        return source.isEmpty() ? 0 : 10 * figure(source.indexOf('w') + 5) + figure(source.indexOf('w') + 6);
    }

    private static int lift(int kind, int wide, int tail, int wind) {
        int half = (wide * wind - wide * wind % 2) / 2;
        int kite = half < 2 * tail ? 0 : half - 2 * tail;
        int box = wind < 3 ? half : half + 2;
        int[] all = {kite, kite / 3, wind < 7 ? kite / 2 : 0, box, kite < 6 ? 1 : kite / 3, box + wind};
        return all[kind];
    }

    private static int lift(int[] kite, int wind) {
        return lift(kite[0], kite[1], kite[3], wind);
    }

    private static boolean isLifted(int[] kite, int wind) {
        return lift(kite, wind) > 4 * kite[2];
    }

    private static int pay(int[] kite, int wind) {
        return isLifted(kite, wind) ? 0 : lift(kite, wind);
    }

    private int find(int which) {
        finding = which;
        findings[which]++;
        return -3;
    }

    private static boolean out(int v, int least, int greatest) {
        return v < least || v > greatest;
    }

    private boolean noKite(int i) {
        return out(i, 0, new Now().kites.size() - 1);
    }

    private int tell(int v) {
        asked = v;
        return 1;
    }

    private static List<Integer> of(int n, int v) {
        List<Integer> made = new ArrayList<>();
        for (int i = 0; i < n; i++) {
            made.add(v);
        }
        return made;
    }

    long call(String name, int... a) {
        return switch (name) {
            case "row" -> out(a[0], 0, 5) || a[1] > 40 ? -1 : a[1] < 0 ? find(5) : made(rows, a[0], of(a[1], 0));
            case "lay", "at" -> layOrAt(a);
            case "tear" -> out(a[0], 0, 5) ? -1 : rows.remove(a[0]) == null ? find(1) : 1;
            case "copy" -> copy(a[0], a[1], a[2], a[3], a[4]);
            case "mean" -> mean(a[0]);
            case "text" -> out(a[0], 0, 3) || a[1] > 60 ? -1 : a[1] < 0 ? find(5) : made(texts, a[0], of(a[1], 32));
            case "put" -> put(a[0], a[1], a[2]);
            case "fault" -> out(a[0], 0, 3) ? -1 : !texts.containsKey(a[0]) ? find(1) : fault(a[0]);
            case "parish" -> parish(a[0]);
            case "kite" -> noKite(a[0]) || out(a[1], 0, 6) ? -1 : tell(ofKite(a[0], a[1]));
            case "mark" -> mark(a[0], a[1]);
            case "lifts" -> noKite(a[0]) || out(a[1], 0, 9) ? -1 : lift(new Now().kites.get(a[0]), a[1]);
            case "pays" -> pays(a[0], a[1]);
            case "fly" -> fly(a[0]);
            case "rest" -> source.isEmpty() ? -4 : deeds.size() == 40 ? -2 : done("r-", new Now().hour + 1);
            case "tie" -> tail(a[0], 3, 1, "t");
            case "cut" -> tail(a[0], 0, -1, "c");
            case "undo" -> undo(a[0]);
            case "keep" -> keep(a[0]);
            case "on" -> on(a[0]);
            case "most" -> out(a[0], 0, 5) || out(a[1], 0, 5) ? -1 : source.isEmpty() ? -4 : most(a[0], a[1]);
            case "school" -> out(a[0], 0, 5) ? -1 : source.isEmpty() ? -4 : school(a[0]);
            case "flown" -> flown(a[0]);
            case "when" -> noKite(a[0]) ? -1 : when(new Now().kites.get(a[0]));
            case "cross" -> noKite(a[0]) || noKite(a[1]) || a[0] == a[1] || out(a[2], 0, 9) ? -1 : cross(a[0], a[1], a[2]);
            case "crossed" -> crossed(a[0], a[1]);
            case "merge" -> merge(a[0], a[1]);
            case "tails" -> guess(a[0], a[1], false);
            case "kinds" -> guess(a[0], a[1], true);
            case "test" -> test(a[0], a[1]);
            case "duel" -> out(a[0], 0, 6) ? -1 : source.isEmpty() ? -4 : duel(new Now(), 0, a[0], new ArrayList<>());
            case "odds" -> out(a[0], 0, 12) ? -1 : source.isEmpty() ? -4 : chance(true, a[0]);
            case "mid" -> out(a[0], 0, 12) ? -1 : source.isEmpty() ? -4 : chance(false, a[0]);
            case "lots" -> lots(a[0], a[1]);
            case "asked" -> asked;
            case "upper" -> upper.longValueExact();
            case "lower" -> lower.longValueExact();
            case "count" -> out(a[0], 0, 11) ? -1 : count(a[0]);
            case "finding" -> finding;
            case "findings" -> out(a[0], 1, 5) ? -1 : findings[a[0]];
            case "digest" -> digest();
            default -> throw new IllegalArgumentException(name);
        };
    }

    private int made(Map<Integer, List<Integer>> where, int r, List<Integer> what) {
        where.put(r, what);
        return what.size();
    }

    private int layOrAt(int[] a) {
        if (out(a[0], 0, 5)) {
            return -1;
        }
        List<Integer> row = rows.get(a[0]);
        if (row == null || out(a[1], 0, row.size() - 1)) {
            return find(row == null ? 1 : 2);
        }
        return tell(a.length == 3 ? row.set(a[1], a[2]) : row.get(a[1]));
    }

    private int copy(int r, int i, int to, int j, int n) {
        if (out(r, 0, 5) || out(to, 0, 5)) {
            return -1;
        }
        if (n < 0) {
            return find(5);
        }
        if (!rows.containsKey(r) || !rows.containsKey(to)) {
            return find(1);
        }
        if (i < 0 || j < 0 || (long) i + n > rows.get(r).size() || (long) j + n > rows.get(to).size()) {
            return find(2);
        }
        List<Integer> taken = new ArrayList<>(rows.get(r).subList(i, i + n));
        for (int k = 0; k < n; k++) {
            rows.get(to).set(j + k, taken.get(k));
        }
        return 1;
    }

    private int mean(int r) {
        if (out(r, 0, 5)) {
            return -1;
        }
        List<Integer> row = rows.get(r);
        if (row == null || row.isEmpty()) {
            return find(row == null ? 1 : 4);
        }
        BigInteger sum = BigInteger.ZERO;
        for (int v : row) {
            sum = sum.add(BigInteger.valueOf(v));
        }
        return tell(sum.divide(BigInteger.valueOf(row.size())).intValueExact());
    }

    private int put(int t, int i, int v) {
        if (out(t, 0, 3)) {
            return -1;
        }
        List<Integer> text = texts.get(t);
        if (text == null || out(i, 0, text.size() - 1)) {
            return find(text == null ? 1 : 2);
        }
        return 1000 + text.set(i, (int) (byte) v);
    }

    private String signs(int t) {
        StringBuilder made = new StringBuilder();
        for (int v : texts.get(t)) {
            made.append((char) (v & 255));
        }
        return made.toString();
    }

    /** The first place up to which no text of the language goes. */
    private int fault(int t) {
        String text = signs(t);
        for (int n = 1; n <= text.length(); n++) {
            Matcher matcher = LANGUAGE.matcher(text.substring(0, n));
            if (!matcher.matches() && !matcher.hitEnd()) {
                return n - 1;
            }
        }
        return LANGUAGE.matcher(text).matches() ? -9 : text.length();
    }

    private int parish(int t) {
        if (out(t, 0, 3)) {
            return -1;
        }
        if (!texts.containsKey(t)) {
            return find(1);
        }
        if (fault(t) != -9) {
            return -4;
        }
        source = signs(t);
        deeds = new ArrayList<>();
        kept.clear();
        return new Now().kites.size();
    }

    private int ofKite(int i, int what) {
        Now now = new Now();
        int[] kite = now.kites.get(i);
        return switch (what) {
            case 4 -> lift(kite, now.wind(0));
            case 5 -> pay(kite, now.wind(0));
            case 6 -> now.paid.getOrDefault(i, -9);
            default -> kite[what];
        };
    }

    private int mark(int i, int kind) {
        if (noKite(i) || out(kind, 1, 5)) {
            return -1;
        }
        Now now = new Now();
        int[] kite = now.kites.get(i);
        boolean is = kite[0] == kind || kind == 1 && kite[0] == 4 || kind == 3 && kite[0] == 5;
        if (!is) {
            return find(3);
        }
        int alike = lift(0, kite[1], kite[3], now.wind(0));
        int own = lift(kite, now.wind(0));
        int count = 0;
        int last = -9;
        int first = -9;
        for (int wind = 0; wind < 10; wind++) {
            last = lift(kite, wind) > 0 ? wind : last;
            first = first < 0 && isLifted(kite, wind) ? wind : first;
            count += lift(kite, wind) > lift(1, kite[1], kite[3], wind) ? 1 : 0;
        }
        return new int[] {0, alike + 100 - own, last, own - alike, count, first}[kind];
    }

    private int pays(int i, int wind) {
        if (noKite(i) || out(wind, 0, 9)) {
            return -1;
        }
        int[] kite = new Now().kites.get(i);
        return isLifted(kite, wind) ? -9 : pay(kite, wind);
    }

    private int done(String deed, int answer) {
        deeds.add(deed);
        return answer;
    }

    private int fly(int i) {
        if (noKite(i)) {
            return -1;
        }
        if (new Now().paid.containsKey(i)) {
            return -4;
        }
        return deeds.size() == 40 ? -2 : done("f" + i, ofKite(i, 5));
    }

    private int tail(int i, int end, int step, String deed) {
        if (noKite(i)) {
            return -1;
        }
        int tail = ofKite(i, 3);
        return tail == end ? -4 : deeds.size() == 40 ? -2 : done(deed + i, tail + step);
    }

    private int undo(int n) {
        if (out(n, 0, deeds.size())) {
            return -1;
        }
        int undone = deeds.size() - n;
        deeds = new ArrayList<>(deeds.subList(0, n));
        return undone;
    }

    private int keep(int k) {
        if (out(k, 0, 2) || source.isEmpty()) {
            return out(k, 0, 2) ? -1 : -4;
        }
        kept.put(k, new ArrayList<>(deeds));
        return deeds.size();
    }

    private int on(int k) {
        if (out(k, 0, 2)) {
            return -1;
        }
        if (!kept.containsKey(k)) {
            return find(1);
        }
        deeds = new ArrayList<>(kept.get(k));
        return deeds.size();
    }

    /** All rows of n HOURS with nobody LIFTED, none ahead of numbers; the best of these, the first. */
    private List<Integer> bestRow(Now now, int n) {
        List<List<Integer>> all = new ArrayList<>();
        collect(now, n, new ArrayList<>(), all);
        List<Integer> best = null;
        for (List<Integer> row : all) {
            if (best == null || worth(now, row) > worth(now, best)) {
                best = row;
            }
        }
        return best;
    }

    private void collect(Now now, int n, List<Integer> row, List<List<Integer>> all) {
        if (row.size() == n) {
            all.add(new ArrayList<>(row));
            return;
        }
        for (int i = -1; i < now.kites.size(); i++) {
            int told = i < 0 ? -9 : i;
            boolean may = i < 0 || !now.paid.containsKey(i) && !row.contains(i) && !isLifted(now.kites.get(i), now.wind(row.size()));
            if (may) {
                row.add(told);
                collect(now, n, row, all);
                row.remove(row.size() - 1);
            }
        }
    }

    private int worth(Now now, List<Integer> row) {
        int sum = 0;
        for (int h = 0; h < row.size(); h++) {
            sum += row.get(h) < 0 ? 0 : pay(now.kites.get(row.get(h)), now.wind(h));
        }
        return sum;
    }

    private int most(int n, int r) {
        Now now = new Now();
        List<Integer> best = bestRow(now, n);
        rows.put(r, new ArrayList<>(best));
        return worth(now, best);
    }

    private int school(int r) {
        Now now = new Now();
        for (int n = 0; n <= 5; n++) {
            List<Integer> best = bestRow(now, n);
            if (now.total() + worth(now, best) >= wanted()) {
                rows.put(r, new ArrayList<>(best));
                return n;
            }
        }
        return -9;
    }

    private int flown(int r) {
        if (out(r, 0, 5) || source.isEmpty()) {
            return out(r, 0, 5) ? -1 : -4;
        }
        List<Integer> row = rows.get(r);
        if (row == null || row.size() > 20) {
            return find(row == null ? 1 : 5);
        }
        Now now = new Now();
        List<Integer> free = now.unflown();
        int lifted = 0;
        for (int h = 0; h < row.size(); h++) {
            Integer i = row.get(h);
            if (i != -9 && !free.remove(i)) {
                return find(3);
            }
            lifted |= i != -9 && isLifted(now.kites.get(i), now.wind(h)) ? 1 << i : 0;
        }
        asked = lifted;
        return worth(now, row);
    }

    private int when(int[] kite) {
        Now now = new Now();
        int best = 3;
        for (int h = 2; h >= 0; h--) {
            best = pay(kite, now.wind(h)) >= pay(kite, now.wind(best)) ? h : best;
        }
        asked = pay(kite, now.wind(best));
        return best;
    }

    private int cross(int i, int j, int wind) {
        Now now = new Now();
        int a = lift(now.kites.get(i), wind);
        int b = lift(now.kites.get(j), wind);
        return a * b == 0 ? a + b : a + b + 3;
    }

    private int crossed(int v, int wind) {
        if (out(v, 0, 200) || out(wind, 0, 9)) {
            return -1;
        }
        if (source.isEmpty()) {
            return -4;
        }
        List<Integer> found = new ArrayList<>();
        int size = new Now().kites.size();
        for (int pair = 0; pair < 60; pair++) {
            int i = pair / 10;
            int j = pair % 10;
            if (i < j && j < size && cross(i, j, wind) == v) {
                found.add(pair);
            }
        }
        if (found.isEmpty()) {
            return -9;
        }
        asked = found.get(0);
        return found.size();
    }

    /** All rows that tell for each with whom it is, in their order; those with too many left are passed over. */
    private int merge(int wind, int r) {
        if (out(wind, 0, 9) || out(r, 0, 5)) {
            return -1;
        }
        if (source.isEmpty()) {
            return -4;
        }
        int size = new Now().kites.size();
        int[][] lifts = new int[size][size];
        for (int i = 0; i < size; i++) {
            for (int j = 0; j < size; j++) {
                lifts[i][j] = i == j ? 0 : cross(i, j, wind);
            }
        }
        int best = -1;
        int[] with = new int[size];
        Arrays.fill(with, -1);
        while (true) {
            int sum = sumOf(with, lifts);
            if (sum > best) {
                best = sum;
                List<Integer> row = new ArrayList<>();
                for (int j : with) {
                    row.add(j < 0 ? -9 : j);
                }
                rows.put(r, row);
            }
            int at = size - 1;
            while (at >= 0 && with[at] == size - 1) {
                with[at--] = -1;
            }
            if (at < 0) {
                return best;
            }
            with[at]++;
        }
    }

    private static int sumOf(int[] with, int[][] lifts) {
        int sum = 0;
        int left = 0;
        for (int i = 0; i < with.length; i++) {
            if (with[i] < 0) {
                left++;
            } else if (with[i] == i || with[with[i]] != i) {
                return -1;
            } else {
                sum += lifts[i][with[i]];
            }
        }
        return left == with.length % 2 ? sum / 2 : -1;
    }

    private int faultOfPairs(int r) {
        List<Integer> row = rows.get(r);
        if (row == null || row.size() % 2 == 1) {
            return row == null ? 1 : 5;
        }
        for (int i = 0; i < row.size(); i++) {
            if (out(row.get(i), 0, i % 2 == 0 ? 9 : 99)) {
                return 3;
            }
        }
        return 0;
    }

    private int guess(int i, int r, boolean ofKind) {
        if (noKite(i) || out(r, 0, 5)) {
            return -1;
        }
        if (faultOfPairs(r) != 0) {
            return find(faultOfPairs(r));
        }
        int[] kite = new Now().kites.get(i);
        int fitting = 0;
        for (int v = 0; v < (ofKind ? 6 : 4); v++) {
            boolean fits = true;
            for (int k = 0; k < rows.get(r).size(); k += 2) {
                int lifted = lift(ofKind ? v : kite[0], kite[1], ofKind ? kite[3] : v, rows.get(r).get(k));
                fits &= lifted == rows.get(r).get(k + 1);
            }
            fitting += fits ? 1 << v : 0;
        }
        return fitting;
    }

    private int test(int i, int r) {
        int kinds = guess(i, r, true);
        if (kinds <= 0) {
            return kinds == 0 ? -9 : kinds;
        }
        int[] kite = new Now().kites.get(i);
        int best = -1;
        int least = 100;
        for (int wind = 0; wind < 10; wind++) {
            int[] heaps = new int[200];
            for (int kind = 0; kind < 6; kind++) {
                heaps[lift(kind, kite[1], kite[3], wind)] += kinds >> kind & 1;
            }
            int greatest = Arrays.stream(heaps).max().getAsInt();
            if (greatest < least) {
                least = greatest;
                best = wind;
            }
        }
        asked = least;
        return best;
    }

    private int duel(Now now, int h, int n, List<Integer> used) {
        if (h == n) {
            return 0;
        }
        int best = duelAfter(now, h, n, used, -1);
        for (int i : now.unflown()) {
            if (!used.contains(i)) {
                int worth = duelAfter(now, h, n, used, i);
                best = h % 2 == 0 ? Math.max(best, worth) : Math.min(best, worth);
            }
        }
        return best;
    }

    private int duelAfter(Now now, int h, int n, List<Integer> used, int i) {
        used.add(i);
        int worth = (i < 0 ? 0 : pay(now.kites.get(i), now.wind(h))) + duel(now, h + 1, n, used);
        used.remove(used.size() - 1);
        return worth;
    }

    /** What can be PAID, each with how many of 12 to the power of the HOURS come to it. */
    private int chance(boolean ofEnough, int p) {
        Now now = new Now();
        Map<Integer, BigInteger> ways = new TreeMap<>();
        ways.put(now.total(), BigInteger.ONE);
        List<Integer> free = now.unflown();
        for (int h = 0; h < free.size(); h++) {
            Map<Integer, BigInteger> next = new TreeMap<>();
            int[] kite = now.kites.get(free.get(h));
            for (Map.Entry<Integer, BigInteger> way : ways.entrySet()) {
                next.merge(way.getKey() + pay(kite, 0), way.getValue().multiply(BigInteger.valueOf(p)), BigInteger::add);
                next.merge(way.getKey() + pay(kite, now.wind(h)), way.getValue().multiply(BigInteger.valueOf(12 - p)), BigInteger::add);
            }
            ways = next;
        }
        BigInteger sum = BigInteger.ZERO;
        for (Map.Entry<Integer, BigInteger> way : ways.entrySet()) {
            int factor = ofEnough ? way.getKey() >= wanted() ? 1 : 0 : way.getKey();
            sum = sum.add(way.getValue().multiply(BigInteger.valueOf(factor)));
        }
        BigInteger all = BigInteger.valueOf(12).pow(free.size());
        upper = sum.divide(sum.gcd(all));
        lower = all.divide(sum.gcd(all));
        return 1;
    }

    private int lots(int n, int seed) {
        if (out(n, 1, 20) || out(seed, 1, 2147483646)) {
            return -1;
        }
        if (source.isEmpty()) {
            return -4;
        }
        if (deeds.size() + n > 40) {
            return -2;
        }
        BigInteger number = BigInteger.valueOf(seed);
        for (int k = 0; k < n; k++) {
            number = number.multiply(BigInteger.valueOf(48271)).mod(BigInteger.valueOf(2147483647));
            int i = number.shiftRight(3).mod(BigInteger.valueOf(new Now().kites.size())).intValueExact();
            boolean isEven = !number.testBit(0);
            if (fly(i) == -4 && !(isEven && call("tie", i) > 0)) {
                call("rest");
            }
        }
        return new Now().total();
    }

    private int count(int what) {
        if (what >= 8 && what <= 10) {
            return (what == 8 ? rows : what == 9 ? texts : kept).size();
        }
        if (source.isEmpty()) {
            return 0;
        }
        Now now = new Now();
        int flown = 0;
        for (int i : now.paid.keySet()) {
            flown |= 1 << i;
        }
        int boxes = (int) now.kites.stream().filter(kite -> kite[0] == 3 || kite[0] == 5).count();
        return switch (what) {
            case 0 -> now.kites.size();
            case 1 -> now.hour;
            case 2 -> deeds.size();
            case 3 -> now.wind(0);
            case 4 -> flown;
            case 5 -> now.lifted;
            case 6 -> now.total();
            case 7 -> wanted();
            default -> boxes;
        };
    }

    private long digest() {
        List<Integer> told = new ArrayList<>();
        for (int what = 0; what < 12; what++) {
            told.add(count(what));
        }
        for (int h = 0; h < 4; h++) {
            told.add(source.isEmpty() ? 0 : figure(source.indexOf('w') + 1 + h));
        }
        for (int i = 0; i < count(0); i++) {
            for (int what = 0; what < 7; what++) {
                told.add(ofKite(i, what));
            }
        }
        for (int k = 0; k < 3; k++) {
            told.add(kept.containsKey(k) ? kept.get(k).size() : -1);
        }
        for (int r = 0; r < 6; r++) {
            told.add(rows.containsKey(r) ? rows.get(r).size() : -1);
            told.addAll(rows.getOrDefault(r, List.of()));
        }
        for (int t = 0; t < 4; t++) {
            told.add(texts.containsKey(t) ? texts.get(t).size() : -1);
            told.addAll(texts.getOrDefault(t, List.of()));
        }
        long h = 17;
        for (int v : told) {
            h = 31 * h + v;
        }
        return h;
    }
}
