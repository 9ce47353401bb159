/** Promises 10 to 16: good sets, orders and sessions. */
final class OrderTest {
    private static final int NONE = CrossedSheets.NONE;
    private static final int UNKNOWN = CrossedSheets.UNKNOWN;
    private static final int OUTSIDE = CrossedSheets.OUTSIDE;
    private static final int NOT = CrossedSheets.NOT;
    private static final Check CHECK = new Check("Order");
    private static final String TEN = "{0:1}{1:1}{2:1}{3:1}{4:1}{5:1}{6:1}{7:1}{8:1}{9:1}";
    private static final String CHAIN = "(0/0 1/1 2/2 3/3 4/4 5/5 6/6 7/7 8/8 9/9 10)";

    public static void main(String[] args) {
        good();
        next();
        orders();
        order();
        ahead();
        place();
        session();
        sessionsOfTenMarks();
        withoutMarks();
        CHECK.end();
    }

    private static void good() {
        CrossedSheets x = Check.on("{0:1{1:2}}{2:3}");
        int[] want = {0, 1, 3, 4, 5, 7};
        CHECK.due("good(-1)", x.good(NONE), want.length);
        for (int i = 0; i < want.length; i++) {
            CHECK.due("good(" + i + ")", x.good(i), want[i]);
        }
        CHECK.due("good(6)", x.good(6), NONE);
        CHECK.due("good(-2)", x.good(-2), NONE);
        CHECK.due("good(max)", x.good(Integer.MAX_VALUE), NONE);
        CHECK.due("good(min)", x.good(Integer.MIN_VALUE), NONE);
        CHECK.due("all of ten marks", Check.on(TEN).good(NONE), 1024);
        CHECK.due("the last of ten marks", Check.on(TEN).good(1023), 1023);
        CHECK.due("ten marks in a row", Check.on(CHAIN).good(NONE), 11);
        CHECK.due("the last of them", Check.on(CHAIN).good(10), 1023);
    }

    private static void next() {
        CrossedSheets x = Check.on("{0:1{1:2}}{2:3}");
        CHECK.due("next(0)", x.next(0), 5);
        CHECK.due("next(1)", x.next(1), 6);
        CHECK.due("next(4)", x.next(4), 1);
        CHECK.due("next(3)", x.next(3), 4);
        CHECK.due("next(7)", x.next(7), 0);
        CHECK.due("next(2)", x.next(2), NOT);
        CHECK.due("next(6)", x.next(6), NOT);
        CHECK.due("next(8)", x.next(8), UNKNOWN);
        CHECK.due("next(10)", x.next(10), UNKNOWN);
        CHECK.due("next(-1)", x.next(-1), UNKNOWN);
        CHECK.due("next(min)", x.next(Integer.MIN_VALUE), UNKNOWN);
        x.ink(2, 1);
        x.earlier(1, 0, true);
        CHECK.due("next(0) with inks", x.next(0), 4);
        CHECK.due("next(1) with inks", x.next(1), NOT);
    }

    private static void orders() {
        CHECK.due("orders of ten", Check.on(TEN).orders(), 3628800);
        CHECK.due("orders of a row", Check.on(CHAIN).orders(), 1);
        CrossedSheets x = Check.on("{0:1{1:2}}{2:3}");
        CHECK.due("orders", x.orders(), 3);
        x.ink(2, 1);
        x.earlier(0, 1, true);
        CHECK.due("orders with inks", x.orders(), 1);
        x.earlier(0, 1, false);
        CHECK.due("orders without", x.orders(), 3);
        CrossedSheets y = Check.on(TEN);
        for (int m = 0; m < 5; m++) {
            y.ink(m, 1);
        }
        y.earlier(1, 0, true);
        CHECK.due("five ahead of five", y.orders(), 120 * 120);
    }

    private static void order() {
        CrossedSheets x = Check.on("{0:1{1:2}}{2:3}");
        CHECK.due("order 0", Check.order(x, 0), "012");
        CHECK.due("order 1", Check.order(x, 1), "021");
        CHECK.due("order 2", Check.order(x, 2), "201");
        CHECK.due("order(3, 0)", x.order(3, 0), NONE);
        CHECK.due("order(max, 0)", x.order(Long.MAX_VALUE, 0), NONE);
        CHECK.due("order(2^32, 0)", x.order(1L << 32, 0), NONE);
        CHECK.due("order(-1, 0)", x.order(-1, 0), OUTSIDE);
        CHECK.due("order(min, 0)", x.order(Long.MIN_VALUE, 0), OUTSIDE);
        CHECK.due("order(-1, 9)", x.order(-1, 9), OUTSIDE);
        CHECK.due("order(0, 3)", x.order(0, 3), NONE);
        CHECK.due("order(0, -1)", x.order(0, -1), NONE);
        CHECK.due("order(0, max)", x.order(0, Integer.MAX_VALUE), NONE);
        CrossedSheets y = Check.on(TEN);
        CHECK.due("the first of ten", Check.order(y, 0), "0123456789");
        CHECK.due("the last of ten", Check.order(y, 3628799), "9876543210");
        CHECK.due("order 1000000 of ten", Check.order(y, 999999), "2783915460");
        CHECK.due("none behind the last", y.order(3628800, 0), NONE);
        CHECK.due("a row", Check.order(Check.on(CHAIN), 0), "0123456789");
        CHECK.due("a row told from behind", Check.order(Check.on("(1/2 2/1 3/0 4)"), 0), "210");
    }

    private static void ahead() {
        CrossedSheets x = Check.on("{0:1{1:2}}{2:3}");
        CHECK.due("ahead(0, 1)", x.ahead(0, 1), 3);
        CHECK.due("ahead(1, 0)", x.ahead(1, 0), 0);
        CHECK.due("ahead(2, 0)", x.ahead(2, 0), 1);
        CHECK.due("ahead(0, 2)", x.ahead(0, 2), 2);
        CHECK.due("ahead(2, 1)", x.ahead(2, 1), 2);
        CHECK.due("one twice", x.ahead(1, 1), UNKNOWN);
        CHECK.due("ahead(3, 0)", x.ahead(3, 0), UNKNOWN);
        CHECK.due("ahead(0, 3)", x.ahead(0, 3), UNKNOWN);
        CHECK.due("ahead(-1, 0)", x.ahead(-1, 0), UNKNOWN);
        CHECK.due("ahead(0, -1)", x.ahead(0, -1), UNKNOWN);
        CHECK.due("of ten", Check.on(TEN).ahead(3, 7), 1814400);
    }

    private static void place() {
        CrossedSheets x = Check.on("{0:1{1:2}}{2:3}");
        int[][] want = {{0, 1}, {1, 2}, {0, 2}};
        for (int m = 0; m < 3; m++) {
            CHECK.due("place(" + m + ", 0)", x.place(m, 0), want[m][0]);
            CHECK.due("place(" + m + ", 1)", x.place(m, 1), want[m][1]);
        }
        CHECK.due("place(3, 0)", x.place(3, 0), UNKNOWN);
        CHECK.due("place(-1, 0)", x.place(-1, 0), UNKNOWN);
        CHECK.due("place(0, 2)", x.place(0, 2), OUTSIDE);
        CHECK.due("place(0, -1)", x.place(0, -1), OUTSIDE);
        CHECK.due("unknown ahead of outside", x.place(3, 2), UNKNOWN);
    }

    private static void session() {
        CrossedSheets x = Check.on("{0:1}{1:2}{2:3}{3:4}");
        CHECK.due("one ink", x.count(7), 1);
        CHECK.due("one ink", Check.session(x), "0123");
        x.ink(1, 1);
        x.ink(3, 1);
        CHECK.due("two inks", x.count(7), 2);
        CHECK.due("two inks", Check.session(x), "0213");
        CHECK.due("session(4)", x.session(4), NONE);
        CHECK.due("session(-1)", x.session(-1), NONE);
        CHECK.due("session(min)", x.session(Integer.MIN_VALUE), NONE);
        x.ink(0, 2);
        CHECK.due("three inks", x.count(7), 3);
        CHECK.due("three inks", Check.session(x), "0132");
        CrossedSheets y = Check.on("(0/0 1/1 2/2 3)(0/3 1/4 2/5 3)");
        y.ink(1, 1);
        y.ink(3, 1);
        y.ink(5, 1);
        CHECK.due("0 1 0 and 1 0 1", y.count(7), 4);
        CHECK.due("the first of these", Check.session(y), "013245");
        x.earlier(1, 2, true);
        CHECK.due("one ink ahead of another one", Check.session(x), "1302");
    }

    private static void sessionsOfTenMarks() {
        CrossedSheets x = Check.on(TEN);
        for (int m = 0; m < 10; m++) {
            x.ink(m, m % 4);
        }
        CHECK.due("ten marks in four inks", x.count(7), 4);
        CHECK.due("ten marks in four inks", Check.session(x), "0481592637");
        CrossedSheets y = Check.on(CHAIN);
        for (int m = 0; m < 10; m++) {
            y.ink(m, m % 2);
        }
        CHECK.due("ten sessions", y.count(7), 10);
        CHECK.due("ten sessions", Check.session(y), "0123456789");
    }

    private static void withoutMarks() {
        CrossedSheets x = Check.on("1 2");
        CHECK.due("good(-1)", x.good(NONE), 1);
        CHECK.due("good(0)", x.good(0), 0);
        CHECK.due("next(0)", x.next(0), 0);
        CHECK.due("next(1)", x.next(1), UNKNOWN);
        CHECK.due("orders()", x.orders(), 1);
        CHECK.due("order(0, 0)", x.order(0, 0), NONE);
        CHECK.due("order(1, 0)", x.order(1, 0), NONE);
        CHECK.due("ahead(0, 1)", x.ahead(0, 1), UNKNOWN);
        CHECK.due("place(0, 0)", x.place(0, 0), UNKNOWN);
        CHECK.due("session(0)", x.session(0), NONE);
        CHECK.due("count(7)", x.count(7), 0);
    }
}
