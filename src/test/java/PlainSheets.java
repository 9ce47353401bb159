import java.util.ArrayList;
import java.util.HashSet;
import java.util.List;
import java.util.Set;
import java.util.TreeMap;

/**
 * The same promises, written from the document once more in the slowest and plainest way: a tree of items, all orders
 * one by one, all rows of times one by one. Only for sheets with few marks; WideSheets is for many.
 */
class PlainSheets {
    static final int NONE = -1, UNKNOWN = -1001, OUTSIDE = -1002, NOT = -1003, FULL = -1004;

    private static final class Fault extends RuntimeException {
        private static final long serialVersionUID = 1;
        final int number;
        final int at;

        Fault(int number, int at) {
            this.number = number;
            this.at = at;
        }
    }

    private static final class Item {
        char sign;
        int mark = NONE;
        int stander = NONE;
        int word;
        int at;
        final List<Item> parts = new ArrayList<>();
        final List<int[]> overs = new ArrayList<>();
    }

    private static final class Tree {
        List<Item> items = new ArrayList<>();
        int marks;
        int words;
        int[] kind = new int[10];
        int[] inside = new int[10];
        int[] deep = new int[10];
        boolean[][] behind = new boolean[10][10];
        Item[] arrow = new Item[10];
        String printed = "";
    }

    /** A recursive descent through the grammar. */
    private static final class Descent {
        final String s;
        int at;
        int words;
        final Set<Integer> told = new HashSet<>();
        final TreeMap<Integer, Integer> stars = new TreeMap<>();
        final TreeMap<Integer, Integer> arrows = new TreeMap<>();

        Descent(String s) {
            this.s = s;
        }

        char peek() {
            while (at < s.length() && s.charAt(at) == ' ') {
                at++;
            }
            return at < s.length() ? s.charAt(at) : 0;
        }

        static boolean figure(char c) {
            return c >= '0' && c <= '9';
        }

        void sign(char c) {
            if (peek() != c || at >= s.length()) {
                throw new Fault(1, at);
            }
            at++;
        }

        int number() {
            if (!figure(peek())) {
                throw new Fault(1, at);
            }
            int from = at;
            int end = at;
            while (end < s.length() && figure(s.charAt(end))) {
                end++;
            }
            if (end - from > 2) {
                throw new Fault(2, from);
            }
            at = end;
            return Integer.parseInt(s.substring(from, end));
        }

        int word() {
            peek();
            int from = at;
            int w = number();
            words++;
            if (words > 40) {
                throw new Fault(4, from);
            }
            return w;
        }

        int mark(boolean star) {
            peek();
            int from = at;
            int m = number();
            if (m > 9) {
                throw new Fault(2, from);
            }
            if (star ? stars.containsKey(m) : !told.add(m)) {
                throw new Fault(3, from);
            }
            return m;
        }

        List<Item> items(char end, int depth, boolean inArrow) {
            List<Item> list = new ArrayList<>();
            while (true) {
                char c = peek();
                boolean over = at >= s.length();
                if (end == 0 && over) {
                    return list;
                }
                if (!over && c == end && end != 0 && !list.isEmpty()) {
                    return list;
                }
                if (over) {
                    throw new Fault(1, at);
                }
                list.add(item(c, depth, inArrow));
            }
        }

        Item item(char c, int depth, boolean inArrow) {
            Item it = new Item();
            it.sign = c;
            it.at = at;
            if (figure(c)) {
                it.sign = 'w';
                it.word = word();
            } else if (c == '*') {
                if (inArrow) {
                    throw new Fault(1, at);
                }
                at++;
                it.mark = mark(true);
                stars.put(it.mark, it.at);
            } else if (c == '(') {
                row(it);
            } else if (c == '{' || c == '[' || c == '<') {
                if (depth == 8) {
                    throw new Fault(5, at);
                }
                at++;
                it.mark = mark(false);
                if (c == '<') {
                    arrows.put(it.mark, it.at);
                }
                if (c == '[' && peek() == '!') {
                    at++;
                    it.stander = mark(false);
                }
                sign(':');
                char end = c == '{' ? '}' : c == '[' ? ']' : '>';
                it.parts.addAll(items(end, depth + 1, inArrow || c == '<'));
                sign(end);
            } else {
                throw new Fault(1, at);
            }
            return it;
        }

        void row(Item it) {
            at++;
            it.word = word();
            do {
                sign('/');
                int m = mark(false);
                it.overs.add(new int[] {m, word()});
            } while (peek() == '/');
            sign(')');
        }

        Tree read() {
            Tree t = new Tree();
            t.items = items((char) 0, 0, false);
            int lone = Integer.MAX_VALUE;
            for (int m = 0; m < 10; m++) {
                if (stars.containsKey(m) && !arrows.containsKey(m)) {
                    lone = Math.min(lone, stars.get(m));
                }
                if (!stars.containsKey(m) && arrows.containsKey(m)) {
                    lone = Math.min(lone, arrows.get(m));
                }
            }
            if (lone != Integer.MAX_VALUE) {
                throw new Fault(6, lone);
            }
            for (int m : told) {
                t.marks = Math.max(t.marks, m + 1);
            }
            for (int m = 0; m < t.marks; m++) {
                if (!told.contains(m)) {
                    throw new Fault(7, s.length());
                }
            }
            t.words = words;
            for (Item it : t.items) {
                know(t, it, new ArrayList<>());
            }
            StringBuilder out = new StringBuilder();
            for (Item it : t.items) {
                print(out, it);
            }
            t.printed = out.toString();
            return t;
        }

        void know(Tree t, Item it, List<Item> around) {
            List<Integer> own = new ArrayList<>();
            if (it.mark != NONE) {
                own.add(it.mark);
            }
            if (it.stander != NONE) {
                own.add(it.stander);
                t.kind[it.stander] = 2;
                t.deep[it.stander] = around.size();
                t.inside[it.stander] = wordsIn(it.parts);
                t.behind[it.stander][it.mark] = true;
            }
            int last = NONE;
            for (int[] over : it.overs) {
                own.add(over[0]);
                t.kind[over[0]] = 4;
                t.deep[over[0]] = around.size();
                t.inside[over[0]] = 1;
                if (last != NONE) {
                    t.behind[over[0]][last] = true;
                }
                last = over[0];
            }
            for (int m : own) {
                for (Item a : around) {
                    if (a.sign == '{') {
                        t.behind[m][a.mark] = true;
                    }
                }
            }
            if (it.sign == '{' || it.sign == '[' || it.sign == '<') {
                t.kind[it.mark] = it.sign == '{' ? 0 : it.sign == '[' ? 1 : 3;
                t.deep[it.mark] = around.size();
                t.inside[it.mark] = wordsIn(it.parts);
                if (it.sign == '<') {
                    t.arrow[it.mark] = it;
                }
            }
            around.add(it);
            for (Item part : it.parts) {
                know(t, part, around);
            }
            around.remove(around.size() - 1);
        }

        static int wordsIn(List<Item> items) {
            int n = 0;
            for (Item it : items) {
                n += it.sign == 'w' ? 1 : it.sign == '(' ? 1 + it.overs.size() : wordsIn(it.parts);
            }
            return n;
        }

        static void number(StringBuilder out, int n) {
            if (out.length() > 0 && figure(out.charAt(out.length() - 1))) {
                out.append(' ');
            }
            out.append(n);
        }

        static void print(StringBuilder out, Item it) {
            if (it.sign != 'w') {
                out.append(it.sign);
            }
            if (it.mark != NONE) {
                number(out, it.mark);
            }
            if (it.sign == 'w' || it.sign == '(') {
                number(out, it.word);
            }
            if (it.stander != NONE) {
                out.append('!').append(it.stander);
            }
            for (int[] over : it.overs) {
                out.append('/').append(over[0]).append(' ').append(over[1]);
            }
            if (it.sign == '(') {
                out.append(')');
            }
            if (!it.parts.isEmpty()) {
                out.append(':');
                for (Item part : it.parts) {
                    print(out, part);
                }
                out.append(it.sign == '{' ? '}' : it.sign == '[' ? ']' : '>');
            }
        }
    }

    private Tree tree = new Tree();
    private StringBuilder told = new StringBuilder();
    private int faultAt = NONE;
    private int[] inks = new int[10];
    private boolean[][] earlier = new boolean[4][4];
    private List<Integer> draft = new ArrayList<>();
    private final List<List<Integer>> copies = new ArrayList<>();
    private final Set<List<Integer>> barred = new HashSet<>();
    private List<List<Integer>> orders;

    int feed(int n, long bytes) {
        if (n < 1 || n > 8) {
            return OUTSIDE;
        }
        if (told.length() + n > 400) {
            return FULL;
        }
        for (int k = n - 1; k >= 0; k--) {
            told.append((char) (bytes >> 8 * k & 255));
        }
        return told.length();
    }

    int sheet() {
        String s = told.toString();
        told = new StringBuilder();
        try {
            tree = new Descent(s).read();
        } catch (Fault f) {
            faultAt = f.at;
            return -10 - f.number;
        }
        faultAt = NONE;
        inks = new int[10];
        earlier = new boolean[4][4];
        orders = null;
        return tree.marks;
    }

    int fault() {
        return faultAt;
    }

    static int faultOf(String text) {
        try {
            new Descent(text).read();
        } catch (Fault f) {
            return f.at;
        }
        return NONE;
    }

    int print(int i) {
        return i == NONE ? tree.printed.length() : i < 0 || i >= tree.printed.length() ? NONE : tree.printed.charAt(i);
    }

    private boolean known(int m) {
        return m >= 0 && m < tree.marks;
    }

    /** Whether m must be behind n, by going through all steps again and again. */
    boolean[][] must() {
        boolean[][] must = new boolean[tree.marks][tree.marks];
        for (int round = 0; round <= tree.marks; round++) {
            for (int m = 0; m < tree.marks; m++) {
                for (int n = 0; n < tree.marks; n++) {
                    must[m][n] |= tree.behind[m][n] || earlier[inks[n]][inks[m]];
                    for (int k = 0; k < tree.marks; k++) {
                        must[m][n] |= must[m][k] && must[k][n];
                    }
                }
            }
        }
        return must;
    }

    private boolean turns() {
        boolean[][] must = must();
        for (int m = 0; m < tree.marks; m++) {
            if (must[m][m]) {
                return true;
            }
        }
        return false;
    }

    private int setOf(int m, boolean behind) {
        boolean[][] must = must();
        int set = 0;
        for (int n = 0; n < tree.marks; n++) {
            if (behind ? must[n][m] : must[m][n]) {
                set |= 1 << n;
            }
        }
        return set;
    }

    int mark(int m, int what) {
        if (!known(m)) {
            return UNKNOWN;
        }
        switch (what) {
            case 0: return tree.kind[m];
            case 1: return inks[m];
            case 2: return setOf(m, false);
            case 3: return setOf(m, true);
            case 4: return tree.inside[m];
            case 5: return tree.deep[m];
            default: return OUTSIDE;
        }
    }

    int ink(int m, int i) {
        if (!known(m) || i < 0 || i > 3) {
            return UNKNOWN;
        }
        int was = inks[m];
        inks[m] = i;
        if (turns()) {
            inks[m] = was;
            return NOT;
        }
        orders = null;
        return was;
    }

    int earlier(int a, int b, boolean is) {
        if (a < 0 || a > 3 || b < 0 || b > 3 || a == b) {
            return UNKNOWN;
        }
        boolean was = earlier[a][b];
        earlier[a][b] = is;
        if (turns()) {
            earlier[a][b] = was;
            return NOT;
        }
        orders = null;
        return was ? 1 : 0;
    }

    final int marks() {
        return tree.marks;
    }

    final int inkOf(int m) {
        return inks[m];
    }

    int count(int what) {
        switch (what) {
            case 0: return tree.marks;
            case 1: return tree.words;
            case 2: return told.length();
            case 3: return draft.size();
            case 4: return copies.size();
            case 5: return barred.size();
            case 6: {
                Set<Integer> used = new HashSet<>();
                for (int m = 0; m < tree.marks; m++) {
                    used.add(inks[m]);
                }
                return used.size();
            }
            case 7: return fewest();
            default: return OUTSIDE;
        }
    }

    boolean isGood(int set) {
        boolean[][] must = must();
        for (int m = 0; m < tree.marks; m++) {
            for (int n = 0; n < tree.marks; n++) {
                if ((set >> m & 1) == 1 && must[m][n] && (set >> n & 1) == 0) {
                    return false;
                }
            }
        }
        return true;
    }

    List<Integer> goods() {
        List<Integer> list = new ArrayList<>();
        for (int set = 0; set < 1 << tree.marks; set++) {
            if (isGood(set)) {
                list.add(set);
            }
        }
        return list;
    }

    private static int pick(List<Integer> list, int i) {
        return i == NONE ? list.size() : i < 0 || i >= list.size() ? NONE : list.get(i);
    }

    int good(int i) {
        return pick(goods(), i);
    }

    private int refusal(int set) {
        return set < 0 || set >= 1 << tree.marks ? UNKNOWN : isGood(set) ? 0 : NOT;
    }

    int next(int set) {
        if (refusal(set) != 0) {
            return refusal(set);
        }
        int can = 0;
        for (int m = 0; m < tree.marks; m++) {
            if ((set >> m & 1) == 0 && isGood(set | 1 << m)) {
                can |= 1 << m;
            }
        }
        return can;
    }

    private List<List<Integer>> allOrders() {
        if (orders == null) {
            orders = new ArrayList<>();
            grow(new ArrayList<>(), must());
        }
        return orders;
    }

    private void grow(List<Integer> begun, boolean[][] must) {
        if (begun.size() == tree.marks) {
            orders.add(new ArrayList<>(begun));
            return;
        }
        for (int m = 0; m < tree.marks; m++) {
            boolean can = !begun.contains(m);
            for (int n = 0; n < tree.marks; n++) {
                can &= !must[m][n] || begun.contains(n);
            }
            if (can) {
                begun.add(m);
                grow(begun, must);
                begun.remove(begun.size() - 1);
            }
        }
    }

    long orders() {
        return allOrders().size();
    }

    int order(long i, int j) {
        if (i < 0) {
            return OUTSIDE;
        }
        return i >= allOrders().size() || j < 0 || j >= tree.marks ? NONE : allOrders().get((int) i).get(j);
    }

    long ahead(int m, int n) {
        if (!known(m) || !known(n) || m == n) {
            return UNKNOWN;
        }
        return allOrders().stream().filter(o -> o.indexOf(m) < o.indexOf(n)).count();
    }

    int place(int m, int what) {
        if (!known(m)) {
            return UNKNOWN;
        }
        if (what != 0 && what != 1) {
            return OUTSIDE;
        }
        int best = what == 0 ? 99 : -99;
        for (List<Integer> o : allOrders()) {
            best = what == 0 ? Math.min(best, o.indexOf(m)) : Math.max(best, o.indexOf(m));
        }
        return best;
    }

    private int sessionsOf(List<Integer> order) {
        int n = 0;
        for (int j = 0; j < order.size(); j++) {
            if (j == 0 || inks[order.get(j)] != inks[order.get(j - 1)]) {
                n++;
            }
        }
        return n;
    }

    int fewest() {
        int best = 99;
        for (List<Integer> o : allOrders()) {
            best = Math.min(best, sessionsOf(o));
        }
        return best;
    }

    int session(int j) {
        if (j < 0 || j >= tree.marks) {
            return NONE;
        }
        int fewest = fewest();
        for (List<Integer> o : allOrders()) {
            if (sessionsOf(o) == fewest) {
                return o.get(j);
            }
        }
        return NONE;
    }

    List<Integer> textOf(int set) {
        List<Integer> out = new ArrayList<>();
        spell(tree.items, set, out);
        return out;
    }

    private static boolean in(int set, int m) {
        return m != NONE && (set >> m & 1) == 1;
    }

    private void spell(List<Item> items, int set, List<Integer> out) {
        for (Item it : items) {
            boolean made = in(set, it.mark);
            if (it.sign == 'w') {
                out.add(it.word);
            } else if (it.sign == '(') {
                int w = it.word;
                for (int[] over : it.overs) {
                    w = in(set, over[0]) ? over[1] : w;
                }
                out.add(w);
            } else if (it.sign == '*') {
                if (made) {
                    spell(tree.arrow[it.mark].parts, set, out);
                }
            } else if (it.sign == '{' ? made : it.sign == '<' ? !made : !made || in(set, it.stander)) {
                spell(it.parts, set, out);
            }
        }
    }

    int text(int set, int i) {
        return refusal(set) != 0 ? refusal(set) : pick(textOf(set), i);
    }

    int view(int i) {
        Set<List<Integer>> seen = new HashSet<>();
        List<Integer> sets = new ArrayList<>();
        for (int set : goods()) {
            if (seen.add(textOf(set))) {
                sets.add(set);
            }
        }
        return pick(sets, i);
    }

    int word(int w, int what) {
        if (w < 0 || w > 99 || what < 0 || what > 4) {
            return OUTSIDE;
        }
        int few = NONE;
        int most = NONE;
        int n = 0;
        for (int set : goods()) {
            if (textOf(set).contains(w)) {
                int bits = Integer.bitCount(set);
                few = few == NONE ? bits : Math.min(few, bits);
                most = Math.max(most, bits);
                n++;
            }
        }
        int[] answers = {
            textOf(0).contains(w) ? 1 : 0, textOf((1 << tree.marks) - 1).contains(w) ? 1 : 0, few, most, n
        };
        return answers[what];
    }

    int idle() {
        int idle = 0;
        for (int m = 0; m < tree.marks; m++) {
            boolean same = true;
            for (int set : goods()) {
                if (in(next(set), m)) {
                    same &= textOf(set).equals(textOf(set | 1 << m));
                }
            }
            idle |= same ? 1 << m : 0;
        }
        return idle;
    }

    private static int far(List<Integer> a, List<Integer> b) {
        int[][] d = new int[a.size() + 1][b.size() + 1];
        for (int i = 0; i <= a.size(); i++) {
            for (int j = 0; j <= b.size(); j++) {
                if (i == 0 || j == 0) {
                    d[i][j] = i + j;
                } else {
                    int change = d[i - 1][j - 1] + (a.get(i - 1).equals(b.get(j - 1)) ? 0 : 1);
                    d[i][j] = Math.min(change, 1 + Math.min(d[i - 1][j], d[i][j - 1]));
                }
            }
        }
        return d[a.size()][b.size()];
    }

    int apart(int a, int b) {
        if (refusal(a) == UNKNOWN || refusal(b) == UNKNOWN) {
            return UNKNOWN;
        }
        return refusal(a) != 0 || refusal(b) != 0 ? NOT : far(textOf(a), textOf(b));
    }

    int without(int m, int i) {
        if (!known(m)) {
            return UNKNOWN;
        }
        int set = 0;
        for (int n = 0; n < tree.marks; n++) {
            if (n != m && !must()[n][m]) {
                set |= 1 << n;
            }
        }
        return pick(textOf(set), i);
    }

    int write(int w) {
        if (w < 0 || w > 99) {
            return OUTSIDE;
        }
        if (draft.size() == 40) {
            return FULL;
        }
        draft.add(w);
        return draft.size();
    }

    int see(int set) {
        if (refusal(set) != 0) {
            return refusal(set);
        }
        draft = textOf(set);
        return draft.size();
    }

    int copy() {
        if (copies.size() == 4) {
            return FULL;
        }
        copies.add(draft);
        draft = new ArrayList<>();
        return copies.size() - 1;
    }

    int drop() {
        return copies.isEmpty() ? NONE : copies.remove(copies.size() - 1).size();
    }

    List<Integer> timesOf(int c) {
        List<Integer> list = new ArrayList<>();
        for (int set : goods()) {
            if (textOf(set).equals(copies.get(c))) {
                list.add(set);
            }
        }
        return list;
    }

    int times(int c, int i) {
        return c < 0 || c >= copies.size() ? UNKNOWN : pick(timesOf(c), i);
    }

    private List<int[]> rows() {
        List<int[]> rows = new ArrayList<>();
        rows.add(new int[0]);
        for (int c = 0; c < copies.size(); c++) {
            List<int[]> longer = new ArrayList<>();
            for (int[] row : rows) {
                for (int set : timesOf(c)) {
                    if (c == 0 || (row[c - 1] & ~set) == 0) {
                        int[] more = java.util.Arrays.copyOf(row, c + 1);
                        more[c] = set;
                        longer.add(more);
                    }
                }
            }
            rows = longer;
        }
        return rows;
    }

    long holds() {
        return rows().size();
    }

    int when(int c, int what) {
        if (c < 0 || c >= copies.size()) {
            return UNKNOWN;
        }
        if (what != 0 && what != 1) {
            return OUTSIDE;
        }
        int best = NONE;
        for (int[] row : rows()) {
            int more = Integer.bitCount(row[c]) - (best == NONE ? 0 : Integer.bitCount(best));
            if (best == NONE || (what == 0 ? more < 0 : more > 0) || more == 0 && row[c] < best) {
                best = row[c];
            }
        }
        return best;
    }

    int nearest(int c, int what) {
        if (c < 0 || c >= copies.size()) {
            return UNKNOWN;
        }
        if (what != 0 && what != 1) {
            return OUTSIDE;
        }
        int least = 99;
        int at = NONE;
        for (int set : goods()) {
            int far = far(copies.get(c), textOf(set));
            if (far < least) {
                least = far;
                at = set;
            }
        }
        return what == 0 ? least : at;
    }

    int bar(int x, int y, boolean is) {
        if (x < 0 || x > 99 || y < 0 || y > 99) {
            return OUTSIDE;
        }
        List<Integer> pair = List.of(x, y);
        boolean was = barred.contains(pair);
        if (is && !was && barred.size() == 20) {
            return FULL;
        }
        if (is) {
            barred.add(pair);
        } else {
            barred.remove(pair);
        }
        return was ? 1 : 0;
    }

    int breaksOf(int set) {
        List<Integer> text = textOf(set);
        int n = 0;
        for (int i = 0; i + 1 < text.size(); i++) {
            n += barred.contains(text.subList(i, i + 2)) ? 1 : 0;
        }
        return n;
    }

    int breaks(int set) {
        return refusal(set) != 0 ? refusal(set) : breaksOf(set);
    }

    private int[] breaksOfAll() {
        int[] breaks = new int[1 << tree.marks];
        for (int set : goods()) {
            breaks[set] = breaksOf(set);
        }
        return breaks;
    }

    long clean() {
        int[] breaks = breaksOfAll();
        long n = 0;
        for (List<Integer> o : allOrders()) {
            int set = 0;
            boolean clean = breaks[0] == 0;
            for (int m : o) {
                set |= 1 << m;
                clean &= breaks[set] == 0;
            }
            n += clean ? 1 : 0;
        }
        return n;
    }

    int least() {
        int[] breaks = breaksOfAll();
        int fewest = fewest();
        int least = Integer.MAX_VALUE;
        for (List<Integer> o : allOrders()) {
            if (sessionsOf(o) == fewest) {
                int set = 0;
                int sum = 0;
                for (int j = 0; j < o.size(); j++) {
                    set |= 1 << o.get(j);
                    if (j + 1 == o.size() || inks[o.get(j)] != inks[o.get(j + 1)]) {
                        sum += breaks[set];
                    }
                }
                least = Math.min(least, sum);
            }
        }
        return least;
    }
}
