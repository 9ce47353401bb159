import java.util.ArrayList;
import java.util.Arrays;
import java.util.HashMap;
import java.util.List;
import java.util.Map;

/**
 * The plain model for sheets with many marks, whose orders are too many to be made one by one: they are counted over
 * good sets, where the class counts from the full set back here from none on, and rows of times copy by copy.
 */
final class WideSheets extends PlainSheets {
    /** An order with its sessions, so that the fewest sessions and then the lesser order come first. */
    private record Written(int sessions, String order) implements Comparable<Written> {
        @Override
        public int compareTo(Written other) {
            return sessions != other.sessions ? Integer.compare(sessions, other.sessions) : order.compareTo(other.order);
        }
    }

    private final Map<Integer, List<Integer>> texts = new HashMap<>();
    private final Map<Integer, Long> waysOn = new HashMap<>();
    private final Map<Integer, Written> written = new HashMap<>();
    private List<Integer> goods;
    private boolean[] good;

    private void forget() {
        goods = null;
        waysOn.clear();
        written.clear();
    }

    @Override
    int sheet() {
        int answer = super.sheet();
        texts.clear();
        forget();
        return answer;
    }

    @Override
    int ink(int m, int i) {
        int answer = super.ink(m, i);
        forget();
        return answer;
    }

    @Override
    int earlier(int a, int b, boolean is) {
        int answer = super.earlier(a, b, is);
        forget();
        return answer;
    }

    @Override
    List<Integer> goods() {
        if (goods == null) {
            goods = new ArrayList<>();
            good = new boolean[1 << marks()];
            boolean[][] must = must();
            for (int set = 0; set < good.length; set++) {
                good[set] = hasAll(set, must);
                if (good[set]) {
                    goods.add(set);
                }
            }
        }
        return goods;
    }

    private boolean hasAll(int set, boolean[][] must) {
        for (int m = 0; m < marks(); m++) {
            for (int n = 0; n < marks(); n++) {
                if ((set >> m & 1) == 1 && must[m][n] && (set >> n & 1) == 0) {
                    return false;
                }
            }
        }
        return true;
    }

    @Override
    boolean isGood(int set) {
        goods();
        return good[set];
    }

    @Override
    List<Integer> textOf(int set) {
        return new ArrayList<>(texts.computeIfAbsent(set, super::textOf));
    }

    private int all() {
        return (1 << marks()) - 1;
    }

    private boolean mayCome(int m, int set) {
        return (set >> m & 1) == 0 && isGood(set | 1 << m);
    }

    private boolean cameLast(int m, int set) {
        return (set >> m & 1) == 1 && isGood(set & ~(1 << m));
    }

    /** In how many ways each good set is come to, by way of sets that may be passed. */
    private long[] waysTo(boolean onlyClean) {
        long[] ways = new long[all() + 1];
        for (int set : goods()) {
            ways[set] = set == 0 ? 1 : 0;
            for (int m = 0; m < marks(); m++) {
                ways[set] += cameLast(m, set) ? ways[set & ~(1 << m)] : 0;
            }
            if (onlyClean && breaksOf(set) > 0) {
                ways[set] = 0;
            }
        }
        return ways;
    }

    private long waysOn(int set) {
        Long known = waysOn.get(set);
        if (known != null) {
            return known;
        }
        long ways = set == all() ? 1 : 0;
        for (int m = 0; m < marks(); m++) {
            ways += mayCome(m, set) ? waysOn(set | 1 << m) : 0;
        }
        waysOn.put(set, ways);
        return ways;
    }

    @Override
    long orders() {
        return waysTo(false)[all()];
    }

    @Override
    int order(long i, int j) {
        if (i < 0) {
            return OUTSIDE;
        }
        if (i >= orders() || j < 0 || j >= marks()) {
            return NONE;
        }
        long skipped = 0;
        int set = 0;
        for (int place = 0; ; place++) {
            int m = 0;
            while (!mayCome(m, set) || skipped + waysOn(set | 1 << m) <= i) {
                skipped += mayCome(m, set) ? waysOn(set | 1 << m) : 0;
                m++;
            }
            if (place == j) {
                return m;
            }
            set |= 1 << m;
        }
    }

    @Override
    long ahead(int m, int n) {
        if (m < 0 || m >= marks() || n < 0 || n >= marks() || m == n) {
            return UNKNOWN;
        }
        long[] to = waysTo(false);
        long sum = 0;
        for (int set : goods()) {
            if ((set >> n & 1) == 0 && mayCome(m, set)) {
                sum += to[set] * waysOn(set | 1 << m);
            }
        }
        return sum;
    }

    @Override
    int place(int m, int what) {
        if (m < 0 || m >= marks()) {
            return UNKNOWN;
        }
        if (what != 0 && what != 1) {
            return OUTSIDE;
        }
        int least = marks();
        int greatest = NONE;
        for (int set : goods()) {
            if (mayCome(m, set)) {
                least = Math.min(least, Integer.bitCount(set));
                greatest = Math.max(greatest, Integer.bitCount(set));
            }
        }
        return what == 0 ? least : greatest;
    }

    /** The first way on with the fewest sessions, behind a set whose last mark is in this ink. */
    private Written writtenOn(int set, int ink) {
        if (set == all()) {
            return new Written(0, "");
        }
        Written known = written.get(set * 8 + ink);
        if (known != null) {
            return known;
        }
        for (int m = 0; m < marks(); m++) {
            if (mayCome(m, set)) {
                Written rest = writtenOn(set | 1 << m, inkOf(m));
                Written way = new Written(rest.sessions() + (inkOf(m) == ink ? 0 : 1), m + rest.order());
                known = known == null || way.compareTo(known) < 0 ? way : known;
            }
        }
        written.put(set * 8 + ink, known);
        return known;
    }

    @Override
    int fewest() {
        return writtenOn(0, 7).sessions();
    }

    @Override
    int session(int j) {
        return j < 0 || j >= marks() ? NONE : writtenOn(0, 7).order().charAt(j) - '0';
    }

    @Override
    long clean() {
        return waysTo(true)[all()];
    }

    /** For each good set and ink of its last mark the sessions begun and the breaks behind those that are over. */
    @Override
    int least() {
        if (marks() == 0) {
            return 0;
        }
        int[][] sessions = new int[all() + 1][4];
        int[][] sums = new int[all() + 1][4];
        for (int set : goods()) {
            Arrays.fill(sessions[set], 99);
            for (int m = 0; m < marks(); m++) {
                if (cameLast(m, set)) {
                    comeTo(set, m, sessions, sums);
                }
            }
        }
        int best = 0;
        for (int ink = 1; ink < 4; ink++) {
            boolean fewer = sessions[all()][ink] < sessions[all()][best];
            boolean alike = sessions[all()][ink] == sessions[all()][best];
            best = fewer || alike && sums[all()][ink] < sums[all()][best] ? ink : best;
        }
        return sums[all()][best] + breaksOf(all());
    }

    private void comeTo(int set, int m, int[][] sessions, int[][] sums) {
        int from = set & ~(1 << m);
        int ink = inkOf(m);
        for (int last = 0; last < 4; last++) {
            int begun = from == 0 ? 1 : sessions[from][last] + (last == ink ? 0 : 1);
            int sum = from == 0 ? 0 : sums[from][last] + (last == ink ? 0 : breaksOf(from));
            if (begun < sessions[set][ink] || begun == sessions[set][ink] && sum < sums[set][ink]) {
                sessions[set][ink] = begun;
                sums[set][ink] = sum;
            }
        }
    }

    /** How many rows of times from one copy to another, in either way, end with each time of that one. */
    private long[] rowsTo(int from, int to) {
        int step = from <= to ? 1 : -1;
        long[] rows = new long[timesOf(from).size()];
        Arrays.fill(rows, 1);
        for (int c = from; c != to; c += step) {
            List<Integer> here = timesOf(c);
            List<Integer> there = timesOf(c + step);
            long[] longer = new long[there.size()];
            for (int k = 0; k < here.size(); k++) {
                for (int n = 0; n < there.size(); n++) {
                    int within = step > 0 ? here.get(k) & ~there.get(n) : there.get(n) & ~here.get(k);
                    longer[n] += within == 0 ? rows[k] : 0;
                }
            }
            rows = longer;
        }
        return rows;
    }

    @Override
    long holds() {
        if (count(4) == 0) {
            return 1;
        }
        long sum = 0;
        for (long rows : rowsTo(0, count(4) - 1)) {
            sum += rows;
        }
        return sum;
    }

    @Override
    int when(int c, int what) {
        if (c < 0 || c >= count(4)) {
            return UNKNOWN;
        }
        if (what != 0 && what != 1) {
            return OUTSIDE;
        }
        long[] ahead = rowsTo(0, c);
        long[] behind = rowsTo(count(4) - 1, c);
        List<Integer> times = timesOf(c);
        int best = NONE;
        for (int k = 0; k < ahead.length; k++) {
            int set = times.get(k);
            int more = Integer.bitCount(set) - (best == NONE ? 0 : Integer.bitCount(best));
            if (ahead[k] > 0 && behind[k] > 0 && (best == NONE || (what == 0 ? more < 0 : more > 0))) {
                best = set;
            }
        }
        return best;
    }
}
