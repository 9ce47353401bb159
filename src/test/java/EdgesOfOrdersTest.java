/** Promises 10 to 16 with the sentences of section 2 of 'Terms' on good sets, orders and sessions. */
final class EdgesOfOrdersTest {
    private static final int NONE = CrossedSheets.NONE;
    private static final int UNKNOWN = CrossedSheets.UNKNOWN;
    private static final int OUTSIDE = CrossedSheets.OUTSIDE;
    private static final int NOT = CrossedSheets.NOT;
    private static final int LOWEST = Integer.MIN_VALUE;
    private static final int HIGHEST = Integer.MAX_VALUE;
    private static final String TEN = "{0:0}{1:1}{2:2}{3:3}{4:4}{5:5}{6:6}{7:7}{8:8}{9:9}";
    private static final String ROW = "(0/0 1/1 2/2 3/3 4/4 5/5 6/6 7/7 8/8 9/9 10)";
    private static final long ALL = 3628800;
    private static final Sentences DOC = new Sentences("EdgesOfOrders");

    public static void main(String[] args) {
        DOC.says("Terms 2", "GOOD are SETS that have with each MARK all behind which it must be",
            EdgesOfOrdersTest::noneAndAllAreGood);
        DOC.says("Promise 10", "GOOD SETS: i = NONE how many, else the i-th (the lesser ahead)",
            EdgesOfOrdersTest::howManyAreGood);
        DOC.says("Promise 10", "NONE (i below NONE, too)", EdgesOfOrdersTest::goodNotSoMany);
        DOC.says("Promise 11", "MARKS that may come behind a SET: the SET", EdgesOfOrdersTest::behindNoneAndAll);
        DOC.says("Promise 11", "UNKNOWN (bits)", EdgesOfOrdersTest::nextUnknown);
        DOC.says("Promise 11", "NOT: it is not GOOD", EdgesOfOrdersTest::nextNotGood);
        DOC.says("Promise 12", "How many ORDERS (1 without MARKS)", EdgesOfOrdersTest::fewestAndMostOrders);
        DOC.says("Terms 2", "all MARKS one behind the other, as they must; held against one another MARK by MARK, "
            + "the lesser ahead", EdgesOfOrdersTest::firstAndLastOrder);
        DOC.says("Promise 13", "MARK j of the i-th ORDER; NONE: there is none such", EdgesOfOrdersTest::noSuchOrder);
        DOC.says("Promise 13", "OUTSIDE (i below 0)", EdgesOfOrdersTest::orderBelowNought);
        DOC.says("Promise 14", "In how many ORDERS MARK m is ahead of n", EdgesOfOrdersTest::aheadInNoneAndAll);
        DOC.says("Promise 14", "UNKNOWN (one twice)", EdgesOfOrdersTest::oneMarkTwice);
        DOC.says("Promise 15", "The least (what = 0), the greatest (1) place of a MARK in an ORDER",
            EdgesOfOrdersTest::firstAndLastPlace);
        DOC.says("Promise 15", "UNKNOWN, OUTSIDE", EdgesOfOrdersTest::placeRefused);
        DOC.says("Terms 2", "SESSIONS of an ORDER: runs of MARKS of one INK, each as long as it goes",
            EdgesOfOrdersTest::runsOfOneInk);
        DOC.says("Terms 2", "the least of all ORDERS (0 without MARKS)", EdgesOfOrdersTest::fewestSessions);
        DOC.says("Promise 16", "MARK j of the first ORDER with the FEWEST SESSIONS",
            EdgesOfOrdersTest::firstOfTheFewest);
        DOC.says("Promise 16", "NONE: there is none such (j below 0, too)", EdgesOfOrdersTest::noSuchPlaceInASession);
        DOC.end();
    }

    private static void noneAndAllAreGood() {
        for (String told : new String[] {"1", "{0:1}", TEN, ROW, "{0:{1:{2:1}}}", "[2!1:1]{0:1}"}) {
            CrossedSheets x = Check.on(told);
            int full = (1 << x.count(0)) - 1;
            DOC.due("none of " + told, x.text(0, NONE) >= 0 ? 1 : 0, 1);
            DOC.due("all of " + told, x.text(full, NONE) >= 0 ? 1 : 0, 1);
            DOC.due("the first of " + told, x.good(0), 0);
            DOC.due("the last of " + told, x.good(x.good(NONE) - 1), full);
        }
        CrossedSheets x = Check.on("{0:1{1:1}}[3!2:1]");
        int[] good = {0, 1, 3, 8, 9, 11, 12, 13, 15};
        DOC.due("how many", x.good(NONE), good.length);
        for (int i = 0; i < good.length; i++) {
            DOC.due("good(" + i + ")", x.good(i), good[i]);
        }
    }

    private static void howManyAreGood() {
        CrossedSheets ten = Check.on(TEN);
        DOC.due("most", ten.good(NONE), 1024);
        for (int i = 0; i < 400; i++) {
            DOC.due("good(" + i + ")", ten.good(i), i);
        }
        DOC.due("the last", ten.good(1023), 1023);
        CrossedSheets row = Check.on(ROW);
        DOC.due("a row", row.good(NONE), 11);
        for (int i = 0; i <= 10; i++) {
            DOC.due("good(" + i + ")", row.good(i), (1 << i) - 1);
        }
        CrossedSheets none = Check.on("1");
        DOC.due("fewest", none.good(NONE), 1);
        DOC.due("the only one", none.good(0), 0);
        CrossedSheets one = Check.on("[0:1]");
        DOC.due("of one mark", one.good(NONE), 2);
        DOC.due("the last", one.good(1), 1);
    }

    private static void goodNotSoMany() {
        CrossedSheets ten = Check.on(TEN);
        DOC.dueForAll("good of ten", i -> ten.good((int) i), NONE, 1024, 1025, HIGHEST, -2, -3, LOWEST);
        CrossedSheets row = Check.on(ROW);
        DOC.dueForAll("good of a row", i -> row.good((int) i), NONE, 11, 12, 1023, HIGHEST, -2, LOWEST);
        CrossedSheets none = Check.on("");
        DOC.dueForAll("good without marks", i -> none.good((int) i), NONE, 1, 2, HIGHEST, -2, LOWEST);
    }

    private static void behindNoneAndAll() {
        CrossedSheets ten = Check.on(TEN);
        DOC.due("behind none", ten.next(0), 1023);
        DOC.due("behind all but the last", ten.next(511), 512);
        DOC.due("behind all", ten.next(1023), 0);
        CrossedSheets row = Check.on(ROW);
        DOC.due("behind none", row.next(0), 1);
        DOC.due("behind all but the last", row.next(511), 512);
        DOC.due("behind all", row.next(1023), 0);
        DOC.due("without marks", Check.on("1").next(0), 0);
        CrossedSheets x = Check.on("{0:1}{1:1}{2:1}");
        x.ink(2, 3);
        x.earlier(3, 0, true);
        DOC.due("by inks", x.next(0), 4);
        DOC.due("by inks", x.next(4), 3);
    }

    private static void nextUnknown() {
        CrossedSheets ten = Check.on(TEN);
        DOC.dueForAll("next of ten", set -> ten.next((int) set), UNKNOWN, 1024, 1025, 2047, HIGHEST, -1, LOWEST);
        CrossedSheets three = Check.on("{0:1{1:1{2:1}}}");
        DOC.due("all three", three.next(7), 0);
        DOC.dueForAll("next of three", set -> three.next((int) set), UNKNOWN, 8, 9, 12, 1023, HIGHEST, -1, -8, LOWEST);
        CrossedSheets none = Check.on("");
        DOC.dueForAll("next without marks", set -> none.next((int) set), UNKNOWN, 1, 2, HIGHEST, -1, LOWEST);
    }

    private static void nextNotGood() {
        CrossedSheets x = Check.on("{0:1{1:1{2:1}}}");
        DOC.dueForAll("next", set -> x.next((int) set), NOT, 2, 4, 5, 6);
        CrossedSheets row = Check.on(ROW);
        DOC.dueForAll("next of a row", set -> row.next((int) set), NOT, 2, 512, 1022, 1021, 767);
        CrossedSheets y = Check.on("{0:1}{1:1}");
        DOC.due("good", y.next(1), 2);
        y.ink(1, 1);
        y.earlier(1, 0, true);
        DOC.due("no more", y.next(1), NOT);
        y.earlier(1, 0, false);
        DOC.due("again", y.next(1), 2);
    }

    // ---- orders

    private static void fewestAndMostOrders() {
        DOC.due("a new object", new CrossedSheets().orders(), 1);
        DOC.due("no marks", Check.on("1 2").orders(), 1);
        DOC.due("one mark", Check.on("{0:1}").orders(), 1);
        DOC.due("two marks", Check.on("{0:1}{1:1}").orders(), 2);
        DOC.due("ten marks", Check.on(TEN).orders(), ALL);
        DOC.due("ten marks in a row", Check.on(ROW).orders(), 1);
        CrossedSheets x = Check.on(TEN);
        x.ink(9, 1);
        x.earlier(1, 0, true);
        DOC.due("9 first", x.orders(), ALL / 10);
        x.sheet();
        DOC.due("empty again", x.orders(), 1);
    }

    private static void firstAndLastOrder() {
        CrossedSheets x = Check.on(TEN);
        DOC.due("the first", Check.order(x, 0), "0123456789");
        DOC.due("the second", Check.order(x, 1), "0123456798");
        DOC.due("the last with 0 ahead", Check.order(x, 362879), "0987654321");
        DOC.due("the first with 1 ahead", Check.order(x, 362880), "1023456789");
        DOC.due("the last", Check.order(x, ALL - 1), "9876543210");
        DOC.due("a row", Check.order(Check.on(ROW), 0), "0123456789");
        DOC.due("a row from behind", Check.order(Check.on("(0/2 1/1 2/0 3)"), 0), "210");
        CrossedSheets y = Check.on("{2:1{0:1}}{1:1}");
        String[] want = {"120", "201", "210"};
        for (int i = 0; i < 3; i++) {
            DOC.due("order " + i, Check.order(y, i), want[i]);
        }
        DOC.due("one mark", Check.order(Check.on("{0:1}"), 0), "0");
    }

    private static void noSuchOrder() {
        CrossedSheets x = Check.on(TEN);
        DOC.due("the last mark of the last", x.order(ALL - 1, 9), 0);
        DOC.dueForAll("order(.., 0)", i -> x.order(i, 0), NONE, ALL, ALL + 1, 1L << 31, 1L << 32, (1L << 32) + 1,
            1L << 62, Long.MAX_VALUE);
        DOC.dueForAll("order(0, ..)", j -> x.order(0, (int) j), NONE, 10, 11, HIGHEST, -1, -2, LOWEST);
        CrossedSheets one = Check.on("{0:1}");
        DOC.due("of one mark", one.order(0, 0), 0);
        DOC.due("a second order", one.order(1, 0), NONE);
        DOC.due("a second mark", one.order(0, 1), NONE);
        CrossedSheets none = Check.on("1");
        DOC.dueForAll("without marks", i -> none.order(i, 0), NONE, 0, 1, Long.MAX_VALUE);
        DOC.dueForAll("without marks", j -> none.order(0, (int) j), NONE, -1, 0, 1);
    }

    private static void orderBelowNought() {
        for (String told : new String[] {"", "{0:1}", TEN}) {
            CrossedSheets x = Check.on(told);
            DOC.dueForAll("order(.., 0) of " + told, i -> x.order(i, 0), OUTSIDE, -1, -2, -(1L << 32), Long.MIN_VALUE);
            DOC.dueForAll("order(-1, ..) of " + told, j -> x.order(-1, (int) j), OUTSIDE, -1, 0, 10, LOWEST, HIGHEST);
        }
    }

    private static void aheadInNoneAndAll() {
        CrossedSheets row = Check.on(ROW);
        DOC.due("in all", row.ahead(0, 9), 1);
        DOC.due("in none", row.ahead(9, 0), 0);
        CrossedSheets ten = Check.on(TEN);
        for (int m = 0; m < 9; m++) {
            DOC.due("in half of them", ten.ahead(m, 9), ALL / 2);
            DOC.due("in the other half", ten.ahead(9, m), ALL / 2);
        }
        CrossedSheets x = Check.on("{0:1{1:1}}{2:1}");
        DOC.due("all three", x.ahead(0, 1), 3);
        DOC.due("two of three", x.ahead(0, 2), 2);
        DOC.due("one of three", x.ahead(1, 2), 1);
        DOC.due("none of three", x.ahead(1, 0), 0);
    }

    private static void oneMarkTwice() {
        CrossedSheets ten = Check.on(TEN);
        for (int m = 0; m < 10; m++) {
            DOC.due("ahead of itself", ten.ahead(m, m), UNKNOWN);
        }
        DOC.dueForAll("ahead(.., 0)", m -> ten.ahead((int) m, 0), UNKNOWN, -1, 10, LOWEST, HIGHEST);
        DOC.dueForAll("ahead(9, ..)", n -> ten.ahead(9, (int) n), UNKNOWN, -1, 10, LOWEST, HIGHEST);
        CrossedSheets one = Check.on("{0:1}");
        DOC.due("the only one", one.ahead(0, 0), UNKNOWN);
        DOC.due("one behind it", one.ahead(0, 1), UNKNOWN);
        DOC.due("without marks", Check.on("").ahead(0, 1), UNKNOWN);
    }

    private static void firstAndLastPlace() {
        CrossedSheets ten = Check.on(TEN);
        CrossedSheets row = Check.on(ROW);
        for (int m = 0; m < 10; m++) {
            DOC.due("the least", ten.place(m, 0), 0);
            DOC.due("the greatest", ten.place(m, 1), 9);
            DOC.due("the least in a row", row.place(m, 0), m);
            DOC.due("the greatest in a row", row.place(m, 1), m);
        }
        CrossedSheets one = Check.on("{0:1}");
        DOC.due("the only one", one.place(0, 0), 0);
        DOC.due("the only one", one.place(0, 1), 0);
        CrossedSheets x = Check.on("{0:1}{1:1}{2:1}");
        x.ink(1, 2);
        x.earlier(2, 0, true);
        DOC.due("by its ink", x.place(1, 1), 0);
        DOC.due("by its ink", x.place(0, 0), 1);
        DOC.due("by its ink", x.place(2, 1), 2);
    }

    private static void placeRefused() {
        CrossedSheets x = Check.on("{0:1}{1:1}");
        DOC.due("the last", x.place(1, 1), 1);
        DOC.dueForAll("place(.., 0)", m -> x.place((int) m, 0), UNKNOWN, -1, 2, 10, LOWEST, HIGHEST);
        DOC.dueForAll("place(.., 1)", m -> x.place((int) m, 1), UNKNOWN, -1, 2, 10, LOWEST, HIGHEST);
        DOC.dueForAll("place(0, ..)", what -> x.place(0, (int) what), OUTSIDE, -1, 2, LOWEST, HIGHEST);
        DOC.due("both", x.place(2, 2), UNKNOWN);
        DOC.due("without marks", Check.on("").place(0, 0), UNKNOWN);
        CrossedSheets ten = Check.on(TEN);
        DOC.due("the last of ten", ten.place(9, 0), 0);
        DOC.due("behind the last of ten", ten.place(10, 0), UNKNOWN);
    }

    // ---- sessions

    private static void runsOfOneInk() {
        CrossedSheets x = Check.on("(1/0 2/1 3/2 4)");
        DOC.due("one run", x.count(7), 1);
        x.ink(0, 1);
        DOC.due("1, 0 0", x.count(7), 2);
        x.ink(1, 1);
        DOC.due("1 1, 0", x.count(7), 2);
        x.ink(0, 0);
        DOC.due("0, 1, 0: the same ink twice", x.count(7), 3);
        x.ink(2, 3);
        DOC.due("0, 1, 3", x.count(7), 3);
        x.ink(1, 3);
        DOC.due("0, 3 3", x.count(7), 2);
    }

    private static void fewestSessions() {
        DOC.due("a new object", new CrossedSheets().count(7), 0);
        DOC.due("without marks", Check.on("1").count(7), 0);
        DOC.due("one mark", Check.on("{0:1}").count(7), 1);
        CrossedSheets ten = Check.on(TEN);
        DOC.due("ten marks in one ink", ten.count(7), 1);
        for (int m = 0; m < 10; m++) {
            ten.ink(m, m & 3);
        }
        DOC.due("ten marks in four inks", ten.count(7), 4);
        CrossedSheets row = Check.on(ROW);
        for (int m = 0; m < 10; m++) {
            row.ink(m, m & 1);
        }
        DOC.due("ten marks in a row, two inks", row.count(7), 10);
        row.sheet();
        DOC.due("without marks again", row.count(7), 0);
    }

    private static void firstOfTheFewest() {
        CrossedSheets x = Check.on(TEN);
        DOC.due("one ink", Check.session(x), "0123456789");
        x.ink(0, 1);
        DOC.due("0 alone in its ink", Check.session(x), "0123456789");
        x.ink(9, 1);
        DOC.due("0 and 9", Check.session(x), "0912345678");
        x.earlier(0, 1, true);
        DOC.due("0 and 9 behind all others", Check.session(x), "1234567809");
        CrossedSheets y = Check.on("(1/1 2/0 3){2:1}");
        y.ink(1, 2);
        DOC.due("1, 0 2", Check.session(y), "102");
        y.ink(2, 2);
        DOC.due("1 2, 0", Check.session(y), "120");
        CrossedSheets z = Check.on("(1/0 2)(1/1 2)");
        z.ink(0, 1);
        z.bar(2, 1, true);
        DOC.due("the first, whatever it breaks", Check.session(z), "01");
    }

    private static void noSuchPlaceInASession() {
        CrossedSheets ten = Check.on(TEN);
        DOC.due("the last", ten.session(9), 9);
        DOC.dueForAll("session of ten", j -> ten.session((int) j), NONE, 10, 11, HIGHEST, -1, -2, LOWEST);
        CrossedSheets one = Check.on("{0:1}");
        DOC.due("the only one", one.session(0), 0);
        DOC.due("a second", one.session(1), NONE);
        CrossedSheets none = Check.on("1");
        DOC.dueForAll("session without marks", j -> none.session((int) j), NONE, -1, 0, 1, HIGHEST, LOWEST);
        ten.sheet();
        DOC.due("no longer any", ten.session(0), NONE);
    }
}
