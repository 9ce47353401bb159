/** Promises 31 to 34: what may not stand. */
final class BarTest {
    private static final int UNKNOWN = CrossedSheets.UNKNOWN;
    private static final int OUTSIDE = CrossedSheets.OUTSIDE;
    private static final int NOT = CrossedSheets.NOT;
    private static final int FULL = CrossedSheets.FULL;
    private static final Check CHECK = new Check("Bar");

    public static void main(String[] args) {
        bar();
        barIsFull();
        breaks();
        clean();
        cleanWithoutMarks();
        least();
        leastOfLongTexts();
        CHECK.end();
    }

    private static void bar() {
        CrossedSheets x = new CrossedSheets();
        CHECK.due("bar(1, 2, true)", x.bar(1, 2, true), 0);
        CHECK.due("bar(1, 2, true)", x.bar(1, 2, true), 1);
        CHECK.due("the other way round", x.bar(2, 1, false), 0);
        CHECK.due("count(5)", x.count(5), 1);
        CHECK.due("bar(1, 2, false)", x.bar(1, 2, false), 1);
        CHECK.due("bar(1, 2, false)", x.bar(1, 2, false), 0);
        CHECK.due("count(5)", x.count(5), 0);
        for (int k = 0; k < 2; k++) {
            boolean is = k == 0;
            CHECK.due("bar(-1, 2)", x.bar(-1, 2, is), OUTSIDE);
            CHECK.due("bar(100, 2)", x.bar(100, 2, is), OUTSIDE);
            CHECK.due("bar(1, -1)", x.bar(1, -1, is), OUTSIDE);
            CHECK.due("bar(1, 100)", x.bar(1, 100, is), OUTSIDE);
        }
        CHECK.due("count(5)", x.count(5), 0);
        CHECK.due("bar(0, 0, true)", x.bar(0, 0, true), 0);
        CHECK.due("bar(99, 99, true)", x.bar(99, 99, true), 0);
        CHECK.due("bar(99, 63, true)", x.bar(99, 63, true), 0);
        CHECK.due("bar(99, 64, true)", x.bar(99, 64, true), 0);
        CHECK.due("bar(99, 0, false)", x.bar(99, 0, false), 0);
        CHECK.due("bar(99, 35, false)", x.bar(99, 35, false), 0);
        CHECK.due("count(5)", x.count(5), 4);
    }

    private static void barIsFull() {
        CrossedSheets x = new CrossedSheets();
        for (int k = 0; k < 20; k++) {
            CHECK.due("bar", x.bar(k, 5 * k, true), 0);
        }
        CHECK.due("a 21st", x.bar(50, 50, true), FULL);
        CHECK.due("it is not", x.bar(50, 50, false), 0);
        CHECK.due("one that is", x.bar(19, 95, true), 1);
        CHECK.due("outside ahead of full", x.bar(50, 100, true), OUTSIDE);
        CHECK.due("count(5)", x.count(5), 20);
        CHECK.due("one less", x.bar(3, 15, false), 1);
        CHECK.due("one more", x.bar(50, 50, true), 0);
        CHECK.due("a 21st", x.bar(3, 15, true), FULL);
    }

    private static void breaks() {
        CrossedSheets x = Check.on("1 1 1{0:2{1:1}}");
        CHECK.due("breaks(0)", x.breaks(0), 0);
        x.bar(1, 1, true);
        CHECK.due("breaks(0)", x.breaks(0), 2);
        CHECK.due("breaks(3)", x.breaks(3), 2);
        x.bar(1, 2, true);
        CHECK.due("breaks(1)", x.breaks(1), 3);
        x.bar(2, 1, true);
        CHECK.due("breaks(3)", x.breaks(3), 4);
        x.bar(1, 1, false);
        CHECK.due("breaks(3)", x.breaks(3), 2);
        CHECK.due("breaks(0)", x.breaks(0), 0);
        CHECK.due("breaks(2)", x.breaks(2), NOT);
        CHECK.due("breaks(4)", x.breaks(4), UNKNOWN);
        CHECK.due("breaks(-1)", x.breaks(-1), UNKNOWN);
        Check.feed(x, "1 2 1 2");
        x.sheet();
        CHECK.due("on another sheet", x.breaks(0), 3);
    }

    private static void clean() {
        CrossedSheets x = Check.on("[0:1][1:2][2:3]4");
        CHECK.due("nothing barred", x.clean(), 6);
        x.bar(1, 3, true);
        CHECK.due("1 is ahead of 0 or 2 is ahead of 1", x.clean(), 4);
        x.bar(3, 4, true);
        CHECK.due("at first already", x.clean(), 0);
        x.bar(3, 4, false);
        x.bar(1, 4, true);
        CHECK.due("0 ahead of the last one", x.clean(), 3);
        x.bar(2, 4, true);
        CHECK.due("0 1 2 alone", x.clean(), 1);
        x.ink(0, 1);
        x.earlier(0, 1, true);
        CHECK.due("0 must be last", x.clean(), 0);
        CrossedSheets y = Check.on("{0:1}{1:2}");
        y.bar(1, 2, true);
        CHECK.due("in the end", y.clean(), 0);
        CHECK.due("ten marks", Check.on("{0:1}{1:1}{2:1}{3:1}{4:1}{5:1}{6:1}{7:1}{8:1}{9:1}").clean(), 3628800);
    }

    private static void cleanWithoutMarks() {
        CrossedSheets x = Check.on("1 2");
        CHECK.due("no breaks", x.clean(), 1);
        x.bar(1, 2, true);
        CHECK.due("a break", x.clean(), 0);
        CHECK.due("no session, no breaks", x.least(), 0);
    }

    private static void least() {
        CrossedSheets x = Check.on("1{0:2}{1:3}{2:4}");
        x.bar(1, 3, true);
        x.bar(1, 4, true);
        CHECK.due("one session", x.least(), 0);
        x.ink(0, 1);
        CHECK.due("0 ahead", x.least(), 0);
        x.earlier(0, 1, true);
        CHECK.due("0 behind", x.least(), 1);
        x.bar(2, 3, true);
        CHECK.due("and a break in the end", x.least(), 2);
        x.earlier(0, 1, false);
        CHECK.due("or 0 ahead", x.least(), 1);
        x.ink(1, 2);
        CHECK.due("three sessions: 0 2 1", x.least(), 1);
        x.bar(2, 4, true);
        CHECK.due("2 1 0, 0 2 1 and others", x.least(), 2);
        CrossedSheets y = Check.on("(0/0 1/1 2/2 3)(0/3 1/4 2/5 3)");
        y.ink(1, 1);
        y.ink(3, 1);
        y.ink(5, 1);
        y.bar(2, 1, true);
        CHECK.due("not 0, 1 3, ..", y.least(), 0);
        y.bar(1, 2, true);
        CHECK.due("nor 3, 0 4, ..", y.least(), 1);
    }

    private static void leastOfLongTexts() {
        StringBuilder s = new StringBuilder("(0/0 0/1 0/2 0/3 0/4 0/5 0/6 0/7 0/8 0/9 0)");
        for (int k = 0; k < 29; k++) {
            s.append("0 ");
        }
        CrossedSheets x = Check.on(s.toString());
        for (int m = 0; m < 10; m++) {
            x.ink(m, m & 1);
        }
        x.bar(0, 0, true);
        CHECK.due("ten sessions with 29 breaks each", x.least(), 290);
        CHECK.due("count(7)", x.count(7), 10);
        CHECK.due("session(9)", x.session(9), 9);
        CHECK.due("clean()", x.clean(), 0);
    }
}
