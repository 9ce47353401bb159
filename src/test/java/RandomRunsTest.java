import java.util.Random;

/** Runs of calls on a new object, as many as the document allows, each held against a plain model. */
final class RandomRunsTest {
    private static final int NONE = CrossedSheets.NONE;
    private static final int MOST_CALLS = 512;

    private final Check check;
    private final Random random;
    private final RandomSheets sheets;
    private final int mostMarks;
    private final String seed;
    private final CrossedSheets x = new CrossedSheets();
    private final PlainSheets y;
    private int calls;

    private RandomRunsTest(Check check, PlainSheets model, long seed, int mostMarks) {
        this.check = check;
        this.y = model;
        this.random = new Random(seed);
        this.sheets = new RandomSheets(random);
        this.mostMarks = mostMarks;
        this.seed = "run " + seed;
    }

    public static void main(String[] args) {
        int factor = args.length > 0 ? Integer.parseInt(args[0]) : 1;
        Check check = new Check("RandomRuns");
        for (int k = 0; k < 300 * factor; k++) {
            new RandomRunsTest(check, new PlainSheets(), k, k % 6).run();
        }
        for (int k = 0; k < 300 * factor; k++) {
            new RandomRunsTest(check, new WideSheets(), 1000000 + k, k % 11).run();
        }
        for (int k = 0; k < 4000 * factor; k++) {
            new RandomRunsTest(check, new WideSheets(), 2000000 + k, k % 11).readOnly();
        }
        check.end();
    }

    private void due(String call, long got, long want) {
        calls++;
        check.due(seed + ", call " + calls + ", " + call, got, want);
    }

    /** What is read from a text alone, on sheets with up to ten marks. */
    private void readOnly() {
        String text = sheets.make(mostMarks, 4 * random.nextInt(12));
        tell(random.nextInt(4) > 0 ? sheets.spoil(text) : text);
        if (random.nextBoolean()) {
            samePrint();
        }
        sameMarks();
        int full = (1 << y.count(0)) - 1;
        sameText(0);
        sameText(full);
        while (calls < MOST_CALLS) {
            sameText(random.nextInt(full + 1));
        }
    }

    private void samePrint() {
        int size = y.print(NONE);
        due("print(-1)", x.print(NONE), size);
        for (int i = 0; i < size && calls < MOST_CALLS; i++) {
            due("print(" + i + ")", x.print(i), y.print(i));
        }
    }

    private void sameMarks() {
        for (int m = 0; m < y.count(0); m++) {
            for (int what = 0; what < 6 && calls < MOST_CALLS; what++) {
                due("mark(" + m + ", " + what + ")", x.mark(m, what), y.mark(m, what));
            }
        }
    }

    private void sameText(int set) {
        int size = y.text(set, NONE);
        for (int i = NONE; i < size && calls < MOST_CALLS; i++) {
            due("text(" + set + ", " + i + ")", x.text(set, i), y.text(set, i));
        }
    }

    private void run() {
        tell(withoutFault(mostMarks, 3));
        while (calls < MOST_CALLS) {
            int way = random.nextInt(40);
            if (way == 0 && calls < MOST_CALLS / 2) {
                String text = withoutFault(random.nextInt(mostMarks + 1), 6);
                tell(random.nextInt(3) == 0 ? sheets.spoil(text) : text);
            } else if (way > 0 && way < 6 && calls < MOST_CALLS - 20) {
                copyOne();
            } else {
                one(random.nextInt(34));
            }
        }
    }

    /** Ten marks often take more words than there may be: then another sheet is made. */
    private String withoutFault(int number, int mostWords) {
        String text = sheets.make(number, mostWords);
        for (int k = 0; k < 100 && PlainSheets.faultOf(text) != NONE; k++) {
            text = sheets.make(number, mostWords);
        }
        return text;
    }

    private void tell(String text) {
        int at = 0;
        while (at < text.length()) {
            int n = Math.min(text.length() - at, 1 + random.nextInt(8));
            long bytes = Check.pack(text.substring(at, at + n));
            if (n < 8) {
                bytes |= random.nextLong() << 8 * n;
            }
            due("feed(" + n + ", " + bytes + ")", x.feed(n, bytes), y.feed(n, bytes));
            at += n;
        }
        due("sheet() of " + text, x.sheet(), y.sheet());
        due("fault()", x.fault(), y.fault());
    }

    private void copyOne() {
        if (random.nextInt(6) > 0) {
            int set = set();
            due("see(" + set + ")", x.see(set), y.see(set));
        }
        if (random.nextInt(3) == 0) {
            int w = random.nextInt(10);
            due("write(" + w + ")", x.write(w), y.write(w));
        }
        due("copy()", x.copy(), y.copy());
        due("holds()", x.holds(), y.holds());
        for (int c = 0; c < y.count(4); c++) {
            due("when(" + c + ", 0)", x.when(c, 0), y.when(c, 0));
            due("when(" + c + ", 1)", x.when(c, 1), y.when(c, 1));
        }
        if (random.nextInt(3) == 0) {
            due("drop()", x.drop(), y.drop());
        }
    }

    /** Most often a good set, now and then one that is refused. */
    private int set() {
        int good = y.good(random.nextInt(y.good(NONE)));
        int way = random.nextInt(12);
        return way == 0 ? random.nextInt() : way == 1 ? random.nextInt(1 << mostMarks + 1) : good;
    }

    private int m() {
        return random.nextInt(mostMarks + 3) - 1;
    }

    private int i() {
        int way = random.nextInt(12);
        return way == 0 ? random.nextInt() : way == 1 ? NONE : random.nextInt(14) - 1;
    }

    private int w() {
        return random.nextInt(15) == 0 ? random.nextInt(104) - 2 : random.nextInt(10);
    }

    private int c() {
        return random.nextInt(6) - 1;
    }

    private int what(int most) {
        return random.nextInt(most + 3) - 1;
    }

    private void one(int call) {
        int set = set();
        int m = m();
        int n = m();
        int i = i();
        int w = w();
        int v = w();
        int c = c();
        boolean is = random.nextInt(4) > 0;
        switch (call) {
            case 0: case 1: case 2: {
                int k = random.nextInt(11) - 1;
                if (k < 0 || k > 8) {
                    due("feed(" + k + ", 49)", x.feed(k, 49), y.feed(k, 49));
                }
                break;
            }
            case 3: due("fault()", x.fault(), y.fault()); break;
            case 4: due("print(" + i + ")", x.print(i), y.print(i)); break;
            case 5: { int q = what(5); due("mark(" + m + ", " + q + ")", x.mark(m, q), y.mark(m, q)); break; }
            case 6: { int k = random.nextInt(6) - 1; due("ink(" + m + ", " + k + ")", x.ink(m, k), y.ink(m, k)); break; }
            case 7: {
                int a = random.nextInt(6) - 1;
                int b = random.nextInt(6) - 1;
                due("earlier(" + a + ", " + b + ", " + is + ")", x.earlier(a, b, is), y.earlier(a, b, is));
                break;
            }
            case 8: { int q = what(7); due("count(" + q + ")", x.count(q), y.count(q)); break; }
            case 9: due("good(" + i + ")", x.good(i), y.good(i)); break;
            case 10: due("next(" + set + ")", x.next(set), y.next(set)); break;
            case 11: due("orders()", x.orders(), y.orders()); break;
            case 12: {
                long k = random.nextInt(8) == 0 ? random.nextLong() : random.nextInt((int) y.orders() + 1);
                int j = random.nextInt(mostMarks + 2) - 1;
                due("order(" + k + ", " + j + ")", x.order(k, j), y.order(k, j));
                break;
            }
            case 13: due("ahead(" + m + ", " + n + ")", x.ahead(m, n), y.ahead(m, n)); break;
            case 14: { int q = what(1); due("place(" + m + ", " + q + ")", x.place(m, q), y.place(m, q)); break; }
            case 15: { int j = random.nextInt(mostMarks + 2) - 1; due("session(" + j + ")", x.session(j), y.session(j)); break; }
            case 16: due("text(" + set + ", " + i + ")", x.text(set, i), y.text(set, i)); break;
            case 17: due("view(" + i + ")", x.view(i), y.view(i)); break;
            case 18: { int q = what(4); due("word(" + w + ", " + q + ")", x.word(w, q), y.word(w, q)); break; }
            case 19: due("idle()", x.idle(), y.idle()); break;
            case 20: { int b = set(); due("apart(" + set + ", " + b + ")", x.apart(set, b), y.apart(set, b)); break; }
            case 21: due("without(" + m + ", " + i + ")", x.without(m, i), y.without(m, i)); break;
            case 22: due("write(" + w + ")", x.write(w), y.write(w)); break;
            case 23: due("see(" + set + ")", x.see(set), y.see(set)); break;
            case 24: due("copy()", x.copy(), y.copy()); break;
            case 25: due("drop()", x.drop(), y.drop()); break;
            case 26: due("times(" + c + ", " + i + ")", x.times(c, i), y.times(c, i)); break;
            case 27: due("holds()", x.holds(), y.holds()); break;
            case 28: { int q = what(1); due("when(" + c + ", " + q + ")", x.when(c, q), y.when(c, q)); break; }
            case 29: { int q = what(1); due("nearest(" + c + ", " + q + ")", x.nearest(c, q), y.nearest(c, q)); break; }
            case 30: due("bar(" + w + ", " + v + ", " + is + ")", x.bar(w, v, is), y.bar(w, v, is)); break;
            case 31: due("breaks(" + set + ")", x.breaks(set), y.breaks(set)); break;
            case 32: due("clean()", x.clean(), y.clean()); break;
            default: due("least()", x.least(), y.least()); break;
        }
    }
}
