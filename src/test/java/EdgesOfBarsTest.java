/** Promises 31 to 34 with the sentences of section 3 of 'Terms' on barred pairs, breaks and clean orders. */
final class EdgesOfBarsTest {
    private static final int UNKNOWN = CrossedSheets.UNKNOWN;
    private static final int OUTSIDE = CrossedSheets.OUTSIDE;
    private static final int NOT = CrossedSheets.NOT;
    private static final int FULL = CrossedSheets.FULL;
    private static final int LOWEST = Integer.MIN_VALUE;
    private static final int HIGHEST = Integer.MAX_VALUE;
    private static final String TEN = "{0:0}{1:1}{2:2}{3:3}{4:4}{5:5}{6:6}{7:7}{8:8}{9:9}";
    private static final Sentences DOC = new Sentences("EdgesOfBars");

    public static void main(String[] args) {
        DOC.says("Promise 31", "A pair is BARRED (is = true), or not: what it was (1, 0)", EdgesOfBarsTest::whatItWas);
        DOC.says("Promise 31", "OUTSIDE", EdgesOfBarsTest::barOutside);
        DOC.says("Terms 3", "that may not stand side by side, in this order (20 at most)",
            EdgesOfBarsTest::inThisOrder);
        DOC.says("Promise 31", "FULL (20, and it would be one more)", EdgesOfBarsTest::twentyPairs);
        DOC.says("Terms 3", "BREAKS of a TEXT: at how many places two such stand",
            EdgesOfBarsTest::fewestAndMostBreaks);
        DOC.says("Promise 32", "UNKNOWN (bits), NOT: it is not GOOD", EdgesOfBarsTest::breaksRefused);
        DOC.says("Terms 3", "no BREAKS in any TEXT of its first MARKS, none to all", EdgesOfBarsTest::noneToAll);
        DOC.says("Promise 33", "How many CLEAN ORDERS (without MARKS 1, if the TEXT has no BREAKS, else 0)",
            EdgesOfBarsTest::fewestAndMostCleanOrders);
        DOC.says("Terms 3", "of all ORDERS with the FEWEST SESSIONS the least sum of BREAKS of TEXTS behind the last MARK "
            + "of each SESSION", EdgesOfBarsTest::behindEachSession);
        DOC.says("Promise 34", "LEAST BREAKS", EdgesOfBarsTest::fewestAndMostLeastBreaks);
        DOC.end();
    }

    private static void whatItWas() {
        CrossedSheets x = new CrossedSheets();
        int[][] pairs = {{0, 0}, {0, 99}, {99, 0}, {99, 99}, {1, 2}, {63, 63}, {63, 64}, {64, 63}, {64, 64}};
        for (int[] pair : pairs) {
            DOC.due("not yet", x.bar(pair[0], pair[1], false), 0);
            DOC.due("is", x.bar(pair[0], pair[1], true), 0);
            DOC.due("is already", x.bar(pair[0], pair[1], true), 1);
            DOC.due("pairs", x.count(5), 1);
            DOC.due("is no more", x.bar(pair[0], pair[1], false), 1);
            DOC.due("was not", x.bar(pair[0], pair[1], false), 0);
            DOC.due("pairs", x.count(5), 0);
        }
        for (int[] pair : pairs) {
            DOC.due("all of them", x.bar(pair[0], pair[1], true), 0);
        }
        DOC.due("pairs", x.count(5), pairs.length);
        DOC.due("the other way round", x.bar(2, 1, false), 0);
    }

    private static void barOutside() {
        CrossedSheets x = new CrossedSheets();
        for (boolean is : new boolean[] {true, false}) {
            DOC.dueForAll("bar(.., 0)", w -> x.bar((int) w, 0, is), OUTSIDE, -1, 100, 101, LOWEST, HIGHEST);
            DOC.dueForAll("bar(99, ..)", w -> x.bar(99, (int) w, is), OUTSIDE, -1, 100, 101, 127, 128, LOWEST, HIGHEST);
            DOC.dueForAll("bar(w, w)", w -> x.bar((int) w, (int) w, is), OUTSIDE, -1, 100, LOWEST, HIGHEST);
        }
        DOC.due("pairs", x.count(5), 0);
        DOC.due("the greatest", x.bar(99, 99, true), 0);
        DOC.due("the least", x.bar(0, 0, true), 0);
        DOC.due("pairs", x.count(5), 2);
    }

    private static void inThisOrder() {
        CrossedSheets x = Check.on("1 2(1/0 3)");
        x.bar(1, 2, true);
        DOC.due("1 2 1", x.breaks(0), 1);
        x.bar(1, 2, false);
        x.bar(2, 1, true);
        DOC.due("2 1", x.breaks(0), 1);
        DOC.due("2 3", x.breaks(1), 0);
        x.bar(1, 2, true);
        DOC.due("both", x.breaks(0), 2);
        CrossedSheets y = Check.on("2 1");
        y.bar(1, 2, true);
        DOC.due("not the other way round", y.breaks(0), 0);
        CrossedSheets z = Check.on("1 3 2");
        z.bar(1, 2, true);
        DOC.due("not with one between", z.breaks(0), 0);
    }

    private static void twentyPairs() {
        CrossedSheets x = new CrossedSheets();
        for (int k = 0; k < 20; k++) {
            DOC.due("pair " + k, x.bar(k, 99 - k, true), 0);
            DOC.due("pairs", x.count(5), k + 1);
        }
        DOC.due("a 21st", x.bar(50, 50, true), FULL);
        DOC.due("it is not", x.bar(50, 50, false), 0);
        DOC.due("one that is", x.bar(19, 80, true), 1);
        DOC.due("one that is", x.bar(0, 99, true), 1);
        DOC.due("the other way round is a 21st", x.bar(99, 0, true), FULL);
        DOC.due("outside", x.bar(100, 0, true), OUTSIDE);
        DOC.due("pairs", x.count(5), 20);
        DOC.due("one less", x.bar(7, 92, false), 1);
        DOC.due("pairs", x.count(5), 19);
        DOC.due("one more", x.bar(50, 50, true), 0);
        DOC.due("a 21st", x.bar(7, 92, true), FULL);
        DOC.due("pairs", x.count(5), 20);
    }

    private static String repeated(String what, int times) {
        return what.repeat(times);
    }

    private static void fewestAndMostBreaks() {
        CrossedSheets x = Check.on("[0:" + repeated("7 ", 40) + "]");
        DOC.due("nothing barred", x.breaks(0), 0);
        x.bar(7, 7, true);
        DOC.due("40 words", x.breaks(0), 39);
        DOC.due("no word", x.breaks(1), 0);
        CrossedSheets one = Check.on("7");
        one.bar(7, 7, true);
        DOC.due("one word", one.breaks(0), 0);
        CrossedSheets two = Check.on("7 7");
        two.bar(7, 7, true);
        DOC.due("two words", two.breaks(0), 1);
        CrossedSheets ends = Check.on("0 99 5 5 99 0");
        ends.bar(0, 99, true);
        DOC.due("at the first place", ends.breaks(0), 1);
        ends.bar(99, 0, true);
        DOC.due("at the last place, too", ends.breaks(0), 2);
        ends.bar(0, 0, true);
        DOC.due("not from the last to the first", ends.breaks(0), 2);
        CrossedSheets none = new CrossedSheets();
        none.bar(0, 0, true);
        DOC.due("an empty sheet", none.breaks(0), 0);
        CrossedSheets gone = Check.on("1[0:2]3{1:4}");
        gone.bar(1, 3, true);
        gone.bar(3, 4, true);
        DOC.due("2 between", gone.breaks(0), 0);
        DOC.due("2 is gone", gone.breaks(1), 1);
        DOC.due("and 4 is there", gone.breaks(3), 2);
    }

    private static void breaksRefused() {
        CrossedSheets x = Check.on("{0:1{1:2}}");
        DOC.due("the greatest", x.breaks(3), 0);
        DOC.dueForAll("breaks", set -> x.breaks((int) set), UNKNOWN, 4, 6, 1024, HIGHEST, -1, LOWEST);
        DOC.due("breaks(2)", x.breaks(2), NOT);
        DOC.due("without marks", Check.on("1").breaks(1), UNKNOWN);
        CrossedSheets ten = Check.on(TEN);
        DOC.due("all of ten", ten.breaks(1023), 0);
        DOC.due("a bit more", ten.breaks(1024), UNKNOWN);
    }

    private static void noneToAll() {
        CrossedSheets none = Check.on("1[0:2 3]{1:4}");
        none.bar(2, 3, true);
        DOC.due("a break behind none", none.clean(), 0);
        CrossedSheets all = Check.on("{0:1}{1:2}");
        all.bar(1, 2, true);
        DOC.due("a break behind all", all.clean(), 0);
        CrossedSheets between = Check.on("1[0:2]3{1:4}[2:3]");
        DOC.due("no break", between.clean(), 6);
        between.bar(1, 4, true);
        DOC.due("3 is never gone", between.clean(), 6);
        between.bar(4, 3, true);
        DOC.due("2 ahead of 1", between.clean(), 3);
        between.bar(2, 3, true);
        DOC.due("a break behind none", between.clean(), 0);
    }

    private static void fewestAndMostCleanOrders() {
        DOC.due("a new object", new CrossedSheets().clean(), 1);
        CrossedSheets x = Check.on("1 2");
        DOC.due("without marks", x.clean(), 1);
        x.bar(2, 1, true);
        DOC.due("without marks or breaks", x.clean(), 1);
        x.bar(1, 2, true);
        DOC.due("without marks, with a break", x.clean(), 0);
        x.sheet();
        DOC.due("an empty sheet", x.clean(), 1);
        CrossedSheets ten = Check.on(TEN);
        DOC.due("ten marks", ten.clean(), 3628800);
        ten.bar(9, 0, true);
        DOC.due("no such place", ten.clean(), 3628800);
        ten.bar(0, 2, true);
        DOC.due("1 ahead of 0 or 2", ten.clean(), 3628800 / 3 * 2);
        ten.bar(8, 9, true);
        DOC.due("in the end", ten.clean(), 0);
    }

    private static void behindEachSession() {
        CrossedSheets x = Check.on("1{0:2}{1:3}{2:4}");
        x.bar(1, 3, true);
        x.bar(1, 4, true);
        x.bar(2, 4, true);
        DOC.due("one session: the end alone", x.least(), 0);
        x.ink(0, 1);
        DOC.due("0, 1 2", x.least(), 0);
        x.earlier(0, 1, true);
        DOC.due("1 2, 0", x.least(), 1);
        x.earlier(0, 1, false);
        x.ink(1, 2);
        DOC.due("0, 1, 2", x.least(), 0);
        x.earlier(2, 1, true);
        DOC.due("1, 0, 2 and others", x.least(), 1);
        CrossedSheets y = Check.on("(1/0 2)(1/1 2)");
        y.ink(0, 1);
        y.bar(1, 2, true);
        DOC.due("0 first", y.least(), 0);
        y.earlier(0, 1, true);
        DOC.due("1 first", y.least(), 1);
        CrossedSheets z = Check.on("(1/0 2/1 3)(4/2 5)");
        z.ink(0, 1);
        z.bar(3, 4, true);
        z.bar(2, 5, true);
        DOC.due("fewest sessions", z.count(7), 2);
        DOC.due("0, 1 2 in two sessions", z.least(), 0);
        z.bar(2, 4, true);
        DOC.due("more sessions are not asked for", z.least(), 1);
    }

    private static void fewestAndMostLeastBreaks() {
        CrossedSheets none = Check.on("7 7");
        none.bar(7, 7, true);
        DOC.due("no session, no break", none.least(), 0);
        DOC.due("a new object", new CrossedSheets().least(), 0);
        CrossedSheets x = Check.on("(7/0 7/1 7/2 7/3 7/4 7/5 7/6 7/7 7/8 7/9 7)" + repeated("7 ", 29));
        DOC.due("nothing barred", x.least(), 0);
        x.bar(7, 7, true);
        DOC.due("one session", x.least(), 29);
        for (int m = 0; m < 10; m++) {
            x.ink(m, m & 1);
        }
        DOC.due("ten sessions", x.least(), 290);
        CrossedSheets one = Check.on("{0:7}" + repeated("7 ", 39));
        one.bar(7, 7, true);
        DOC.due("one mark", one.least(), 39);
        CrossedSheets end = Check.on("[0:7 7]");
        end.bar(7, 7, true);
        DOC.due("what was there at first is no sum", end.least(), 0);
    }
}
