import java.util.Random;

/** Sheets with up to ten marks, too many to try all orders: no call throws, and answers fit one another. */
final class TenMarksTest {
    private static final int NONE = CrossedSheets.NONE;
    private static final int NOT = CrossedSheets.NOT;
    private static final Check CHECK = new Check("TenMarks");

    private final Random random;
    private final CrossedSheets x = new CrossedSheets();
    private int marks;

    private TenMarksTest(long seed) {
        random = new Random(seed);
    }

    public static void main(String[] args) {
        for (int k = 0; k < 150; k++) {
            new TenMarksTest(k).run();
        }
        for (int k = 0; k < 300; k++) {
            new TenMarksTest(100000 + k).anything();
        }
        CHECK.end();
    }

    private void tell() {
        RandomSheets sheets = new RandomSheets(random);
        for (int k = 0; k < 20; k++) {
            Check.feed(x, sheets.make(7 + random.nextInt(4), 20));
            marks = x.sheet();
            if (marks >= 0) {
                return;
            }
        }
        marks = x.count(0);
    }

    private void run() {
        tell();
        for (int k = 0; k < 12; k++) {
            x.ink(random.nextInt(marks), random.nextInt(4));
        }
        for (int k = random.nextInt(3); k > 0; k--) {
            x.earlier(random.nextInt(4), random.nextInt(4), true);
        }
        goodSets();
        ordersFit();
        sessionsFit();
        copiesFit();
        barsFit();
    }

    private void goodSets() {
        int found = 0;
        for (int set = 0; set < 1 << marks; set++) {
            if (x.next(set) != NOT) {
                CHECK.due("good(" + found + ")", x.good(found), set);
                found++;
            }
        }
        CHECK.due("good(-1)", x.good(NONE), found);
    }

    private void ordersFit() {
        long number = x.orders();
        for (int k = 0; k < 10; k++) {
            int m = random.nextInt(marks);
            int n = (m + 1 + random.nextInt(marks - 1)) % marks;
            CHECK.due("ahead and behind", x.ahead(m, n) + x.ahead(n, m), number);
        }
        long i = (long) (random.nextDouble() * number);
        String order = Check.order(x, i);
        goesAsItMust(order);
        if (i + 1 < number) {
            CHECK.due("the next order is greater", order.compareTo(Check.order(x, i + 1)) < 0 ? 1 : 0, 1);
        }
        CHECK.due("behind the last order", x.order(number, 0), NONE);
    }

    private void goesAsItMust(String order) {
        int set = 0;
        for (int j = 0; j < marks; j++) {
            int m = order.charAt(j) - '0';
            CHECK.due("a mark that may come in " + order, x.next(set) >> m & 1, 1);
            set |= 1 << m;
        }
        CHECK.due("all marks in " + order, set, (1 << marks) - 1);
    }

    private void sessionsFit() {
        String order = Check.session(x);
        goesAsItMust(order);
        CHECK.due("sessions of " + order, sessionsOf(order), x.count(7));
        for (int k = 0; k < 20; k++) {
            String other = Check.order(x, (long) (random.nextDouble() * x.orders()));
            int more = sessionsOf(other) - x.count(7);
            CHECK.due("no fewer sessions in " + other, more < 0 ? more : 0, 0);
            CHECK.due(other + " is not ahead", more == 0 && other.compareTo(order) < 0 ? 1 : 0, 0);
        }
    }

    private int sessionsOf(String order) {
        int found = 0;
        int ink = NONE;
        for (int j = 0; j < marks; j++) {
            int its = x.mark(order.charAt(j) - '0', 1);
            found += its == ink ? 0 : 1;
            ink = its;
        }
        return found;
    }

    private void copiesFit() {
        String order = Check.order(x, (long) (random.nextDouble() * x.orders()));
        int set = 0;
        int[] taken = new int[4];
        for (int c = 0; c < 4; c++) {
            for (int j = c * marks / 4; j < (c + 1) * marks / 4; j++) {
                set |= 1 << order.charAt(j) - '0';
            }
            x.see(set);
            x.copy();
            taken[c] = set;
        }
        CHECK.due("copies of one order hold", x.holds() > 0 ? 1 : 0, 1);
        for (int c = 0; c < 4; c++) {
            int first = Integer.bitCount(x.when(c, 0));
            int last = Integer.bitCount(x.when(c, 1));
            int real = Integer.bitCount(taken[c]);
            CHECK.due("earliest, real, latest", first <= real && real <= last ? 1 : 0, 1);
            CHECK.due("nearest(" + c + ", 0)", x.nearest(c, 0), 0);
            CHECK.due("nearest(" + c + ", 1)", x.nearest(c, 1), x.times(c, 0));
        }
    }

    private void barsFit() {
        CHECK.due("nothing barred", x.clean(), x.orders());
        CHECK.due("nothing barred", x.least(), 0);
        for (int k = 0; k < 20; k++) {
            x.bar(random.nextInt(10), random.nextInt(10), true);
        }
        long dirty = 0;
        for (int k = 0; k < x.good(NONE); k++) {
            dirty += x.breaks(x.good(k));
        }
        CHECK.due("all clean or not", x.clean() == x.orders() ? 1 : 0, dirty == 0 ? 1 : 0);
        CHECK.due("no more than all breaks", x.least() <= dirty ? 1 : 0, 1);
    }

    /** Calls with any arguments: that none throws is all that is looked at. */
    private void anything() {
        for (int k = 0; k < 450; k++) {
            if (random.nextInt(40) == 0) {
                tell();
            }
            any(random.nextInt(34), number(), number(), random.nextBoolean());
        }
    }

    private int number() {
        switch (random.nextInt(6)) {
            case 0: return random.nextInt();
            case 1: return random.nextInt(1024);
            case 2: return Integer.MIN_VALUE + random.nextInt(2);
            case 3: return Integer.MAX_VALUE - random.nextInt(2);
            default: return random.nextInt(14) - 2;
        }
    }

    private long any(int call, int a, int b, boolean is) {
        switch (call) {
            case 0: return x.feed(a, random.nextLong());
            case 1: return x.feed(1 + (b & 7), random.nextLong());
            case 2: return random.nextInt(20) == 0 ? x.sheet() : x.fault();
            case 3: return x.print(a);
            case 4: return x.mark(a, b);
            case 5: return x.ink(a, b);
            case 6: return x.earlier(a, b, is);
            case 7: return x.count(a);
            case 8: return x.good(a);
            case 9: return x.next(a);
            case 10: return x.orders();
            case 11: return x.order(is ? random.nextLong() : a, b);
            case 12: return x.ahead(a, b);
            case 13: return x.place(a, b);
            case 14: return x.session(a);
            case 15: return x.text(a, b);
            case 16: return x.view(a);
            case 17: return x.word(a, b);
            case 18: return x.idle();
            case 19: return x.apart(a, b);
            case 20: return x.without(a, b);
            case 21: return x.write(a);
            case 22: return x.see(a);
            case 23: return x.copy();
            case 24: return x.drop();
            case 25: return x.times(a, b);
            case 26: return x.holds();
            case 27: return x.when(a, b);
            case 28: return x.nearest(a, b);
            case 29: return x.bar(a, b, is);
            case 30: return x.breaks(a);
            case 31: return x.clean();
            default: return x.least();
        }
    }
}
