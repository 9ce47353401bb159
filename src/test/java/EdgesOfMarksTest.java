import java.util.function.Consumer;

/** Promises 1 and 6 to 9 with the sentences of sections 1 and 2 of 'Terms' on kinds, inks and which mark must be behind. */
final class EdgesOfMarksTest {
    private static final int NONE = CrossedSheets.NONE;
    private static final int UNKNOWN = CrossedSheets.UNKNOWN;
    private static final int OUTSIDE = CrossedSheets.OUTSIDE;
    private static final int NOT = CrossedSheets.NOT;
    private static final int LOWEST = Integer.MIN_VALUE;
    private static final int HIGHEST = Integer.MAX_VALUE;
    private static final String TEN = "{0:0}{1:1}{2:2}{3:3}{4:4}{5:5}{6:6}{7:7}{8:8}{9:9}";
    private static final String ROW = "(0/0 1/1 2/2 3/3 4/4 5/5 6/6 7/7 8/8 9/9 10)";
    private static final Sentences DOC = new Sentences("EdgesOfMarks");

    public static void main(String[] args) {
        DOC.says("Promise 1", "THE SHEET is empty", EdgesOfMarksTest::newSheetIsEmpty);
        DOC.says("Promise 1", "no COPIES, nothing BARRED", EdgesOfMarksTest::newObjectHasNothing);
        DOC.says("Terms 1", "'{': put in between by MARK M (KIND 0). '[': struck out by M (1)",
            EdgesOfMarksTest::kinds);
        DOC.says("Promise 6", "Of a MARK: what = 0 its KIND", EdgesOfMarksTest::whatOfAMark);
        DOC.says("Promise 6", "2 the SET behind all of which it must be, 3 the SET of those that must be behind it",
            EdgesOfMarksTest::leastAndMostOfMust);
        DOC.says("Promise 6", "4 WORDS within its bracket (also of its '!'; of one that writes over: 1)",
            EdgesOfMarksTest::wordsWithin);
        DOC.says("Promise 6", "5 how deep it is told (brackets around it)", EdgesOfMarksTest::howDeep);
        DOC.says("Promise 6", "UNKNOWN, OUTSIDE", EdgesOfMarksTest::noSuchMark);
        DOC.says("Terms 1", "INKS 0 to 3: each MARK is in one (0, when THE SHEET is told)",
            EdgesOfMarksTest::inkIsNought);
        DOC.says("Promise 7", "A MARK is in an INK: in which it was", EdgesOfMarksTest::inWhichItWas);
        DOC.says("Promise 7", "UNKNOWN (INK, too)", EdgesOfMarksTest::noSuchInk);
        DOC.says("Promise 7", "NOT: some MARK would have to be behind itself", EdgesOfMarksTest::inkNotNow);
        DOC.says("Terms 1", "(none at first, and when THE SHEET is told)", EdgesOfMarksTest::noneIsEarlier);
        DOC.says("Terms 1", "all its MARKS are ahead of all of the other", EdgesOfMarksTest::allAheadOfAll);
        DOC.says("Promise 8", "INK a is EARLIER than b (is = true), or not: what it was (1, 0)",
            EdgesOfMarksTest::whatItWas);
        DOC.says("Promise 8", "UNKNOWN (one twice)", EdgesOfMarksTest::oneInkTwice);
        DOC.says("Promise 8", "NOT: some MARK would have to be behind itself", EdgesOfMarksTest::earlierNotNow);
        DOC.says("Terms 2", "if m (its bracket, its '*', its '/' or '!') is told within the '{' of n",
            EdgesOfMarksTest::toldWithin);
        DOC.says("Terms 2", "or lets stand what n struck out", EdgesOfMarksTest::letsStand);
        DOC.says("Terms 2", "or writes over what n wrote, the one ahead of it in its '('",
            EdgesOfMarksTest::writesOver);
        DOC.says("Terms 2", "and so on, step by step", EdgesOfMarksTest::stepByStep);
        DOC.says("Promise 9", "How many: 0 MARKS, 1 WORDS on THE SHEET, 2 bytes told",
            EdgesOfMarksTest::leastAndMostCounts);
        DOC.says("Promise 9", "6 INKS that some MARK is in, 7 SESSIONS at the fewest",
            EdgesOfMarksTest::inksAndSessions);
        DOC.says("Promise 9", "OUTSIDE", EdgesOfMarksTest::countOutside);
        DOC.end();
    }

    private static void newSheetIsEmpty() {
        CrossedSheets x = new CrossedSheets();
        for (int what = 0; what < 8; what++) {
            DOC.due("count(" + what + ")", x.count(what), 0);
        }
        DOC.due("print(-1)", x.print(NONE), 0);
        DOC.due("print(0)", x.print(0), NONE);
        DOC.due("fault()", x.fault(), NONE);
        DOC.due("mark(0, 0)", x.mark(0, 0), UNKNOWN);
        DOC.due("ink(0, 0)", x.ink(0, 0), UNKNOWN);
        DOC.due("good(-1)", x.good(NONE), 1);
        DOC.due("good(0)", x.good(0), 0);
        DOC.due("good(1)", x.good(1), NONE);
        DOC.due("next(0)", x.next(0), 0);
        DOC.due("next(1)", x.next(1), UNKNOWN);
        DOC.due("orders()", x.orders(), 1);
        DOC.due("order(0, 0)", x.order(0, 0), NONE);
        DOC.due("ahead(0, 1)", x.ahead(0, 1), UNKNOWN);
        DOC.due("place(0, 0)", x.place(0, 0), UNKNOWN);
        DOC.due("session(0)", x.session(0), NONE);
        DOC.due("text(0, -1)", x.text(0, NONE), 0);
        DOC.due("text(0, 0)", x.text(0, 0), NONE);
        DOC.due("view(-1)", x.view(NONE), 1);
        DOC.due("view(0)", x.view(0), 0);
        DOC.due("word(0, 0)", x.word(0, 0), 0);
        DOC.due("word(0, 2)", x.word(0, 2), NONE);
        DOC.due("idle()", x.idle(), 0);
        DOC.due("apart(0, 0)", x.apart(0, 0), 0);
        DOC.due("without(0, -1)", x.without(0, NONE), UNKNOWN);
        DOC.due("see(0)", x.see(0), 0);
        DOC.due("breaks(0)", x.breaks(0), 0);
        DOC.due("clean()", x.clean(), 1);
        DOC.due("least()", x.least(), 0);
    }

    private static void newObjectHasNothing() {
        CrossedSheets x = new CrossedSheets();
        DOC.due("times(0, -1)", x.times(0, NONE), UNKNOWN);
        DOC.due("when(0, 0)", x.when(0, 0), UNKNOWN);
        DOC.due("nearest(0, 0)", x.nearest(0, 0), UNKNOWN);
        DOC.due("holds()", x.holds(), 1);
        DOC.due("drop()", x.drop(), NONE);
        for (int w = 0; w < 100; w++) {
            DOC.due("barred with itself: " + w, x.bar(w, w, false), 0);
            DOC.due("barred with the last one: " + w, x.bar(w, 99 - w, false), 0);
        }
        DOC.due("copy() of an empty draft", x.copy(), 0);
        DOC.due("its words", x.drop(), 0);
    }

    private static void marks(String call, CrossedSheets x, int what, String want) {
        DOC.due(call + ": mark(all, " + what + ")", Check.marks(x, what), want);
    }

    private static void marks(String told, int what, String want) {
        marks(told, Check.on(told), what, want);
    }

    private static void kinds() {
        marks("{0:1}[1!2:1]<3:1>*3(1/4 2/5 3)", 0, "0 1 2 3 4 4");
        marks("{5:1}[4!3:1]<2:1>*2(1/1 2/0 3)", 0, "4 4 3 2 1 0");
        marks("*0[1:1]<0:1>", 0, "3 1");
    }

    private static void whatOfAMark() {
        CrossedSheets x = Check.on("{0:1[1!2:2 3]}");
        x.ink(2, 3);
        int[] want = {2, 3, 3, 0, 2, 1};
        for (int what = 0; what <= 5; what++) {
            DOC.due("mark(2, " + what + ")", x.mark(2, what), want[what]);
        }
        DOC.dueForAll("mark(2, ..)", what -> x.mark(2, (int) what), OUTSIDE, -1, 6, 7, LOWEST, HIGHEST);
    }

    private static void leastAndMostOfMust() {
        marks("free: ", Check.on(TEN), 2, "0 0 0 0 0 0 0 0 0 0");
        marks("free: ", Check.on(TEN), 3, "0 0 0 0 0 0 0 0 0 0");
        marks("in a row: ", Check.on(ROW), 2, "0 1 3 7 15 31 63 127 255 511");
        marks("in a row: ", Check.on(ROW), 3, "1022 1020 1016 1008 992 960 896 768 512 0");
    }

    private static void wordsWithin() {
        marks("{0:*1}<1:5>", 4, "0 1");
        marks("{0:1 2 3}", 4, "3");
        marks("[0!1:1 2 3]", 4, "3 3");
        marks("[0:1 2]", 4, "2");
        marks("[0!1:*2]<2:4 5>", 4, "0 0 2");
        marks("(1/0 2/1 3)", 4, "1 1");
        marks("{0:(1/1 2/2 3)}", 4, "3 1 1");
        marks("{0:1{1:2[2!3:3 4]}}5", 4, "4 3 2 2");
        StringBuilder forty = new StringBuilder();
        for (int k = 0; k < 40; k++) {
            forty.append("7 ");
        }
        marks("{0:" + forty + "}", 4, "40");
        marks("[1!0:" + forty + "]", 4, "40 40");
        marks("<0:" + forty + ">*0", 4, "40");
        CrossedSheets x = Check.on("[0!1:1 2]");
        Check.feed(x, "[0:1]{1:2 3 4}");
        x.sheet();
        marks("on another sheet", x, 4, "1 3");
    }

    private static void howDeep() {
        marks("{0:1}[1!2:1]<3:1>*3(1/4 1)", 5, "0 0 0 0 0");
        marks("{0:[1:<2:1>]}*2", 5, "0 1 2");
        marks("{0:{1:[2:[3:<4:<5:{6:[7!8:(1/9 2)]}>>]]}}*4*5", 5, "0 1 2 3 4 5 6 7 7 8");
        marks("{0:1}{1:1}", 5, "0 0");
        marks("<0:1>{1:{2:*0}}", 5, "0 0 1");
    }

    private static void noSuchMark() {
        CrossedSheets x = Check.on("{0:1}");
        DOC.due("the only one", x.mark(0, 0), 0);
        DOC.dueForAll("mark", m -> x.mark((int) m, 0), UNKNOWN, -1, 1, 2, 10, LOWEST, HIGHEST);
        CrossedSheets ten = Check.on(TEN);
        DOC.due("the last of ten", ten.mark(9, 4), 1);
        DOC.dueForAll("mark of ten", m -> ten.mark((int) m, 4), UNKNOWN, -1, 10, 11, LOWEST, HIGHEST);
        CrossedSheets none = Check.on("1");
        DOC.dueForAll("mark of none", m -> none.mark((int) m, 0), UNKNOWN, -1, 0, 9);
        DOC.due("both: unknown", x.mark(1, 6), UNKNOWN);
        DOC.due("the other number alone: outside", x.mark(0, 6), OUTSIDE);
    }

    // ---- inks

    private static void inkIsNought() {
        CrossedSheets x = Check.on(TEN);
        marks("told", x, 1, "0 0 0 0 0 0 0 0 0 0");
        for (int m = 0; m < 10; m++) {
            x.ink(m, 1 + m % 3);
        }
        marks("in inks", x, 1, "1 2 3 1 2 3 1 2 3 1");
        Check.feed(x, "{0:1");
        x.sheet();
        marks("a fault", x, 1, "1 2 3 1 2 3 1 2 3 1");
        Check.feed(x, TEN);
        x.sheet();
        marks("told again", x, 1, "0 0 0 0 0 0 0 0 0 0");
    }

    private static void inWhichItWas() {
        CrossedSheets x = Check.on(TEN);
        for (int m = 0; m < 10; m += 9) {
            DOC.due("from 0 to 3", x.ink(m, 3), 0);
            DOC.due("from 3 to 3", x.ink(m, 3), 3);
            DOC.due("from 3 to 1", x.ink(m, 1), 3);
            DOC.due("from 1 to 2", x.ink(m, 2), 1);
            DOC.due("from 2 to 0", x.ink(m, 0), 2);
            DOC.due("in 0", x.mark(m, 1), 0);
        }
    }

    private static void noSuchInk() {
        CrossedSheets x = Check.on("{0:1}{1:1}");
        x.ink(0, 2);
        DOC.dueForAll("ink(0, ..)", i -> x.ink(0, (int) i), UNKNOWN, -1, 4, 5, LOWEST, HIGHEST);
        DOC.dueForAll("ink(.., 0)", m -> x.ink((int) m, 0), UNKNOWN, -1, 2, 10, LOWEST, HIGHEST);
        DOC.due("it is where it was", x.mark(0, 1), 2);
        DOC.due("it is where it was", x.mark(1, 1), 0);
    }

    private static void inkNotNow() {
        CrossedSheets x = Check.on("{0:1[1:2]}{2:3}");
        x.earlier(1, 0, true);
        DOC.due("1 ahead of 0, in which it is", x.ink(1, 1), NOT);
        marks("inks as they were", x, 1, "0 0 0");
        marks("musts as they were", x, 2, "0 1 0");
        DOC.due("good sets as they were", x.good(NONE), 6);
        DOC.due("orders as they were", x.orders(), 3);
        DOC.due("another one may", x.ink(2, 1), 0);
        marks("musts then", x, 2, "4 5 0");
        DOC.due("0 with it: 1 is behind it anyway", x.ink(0, 1), 0);
        marks("musts then", x, 2, "0 5 0");
        DOC.due("all of them", x.ink(1, 1), 0);
        marks("no ink is ahead of itself", x, 2, "0 1 0");
        CrossedSheets y = Check.on("{0:1}{1:2}{2:3}{3:4}");
        y.ink(1, 1);
        y.ink(2, 2);
        y.earlier(0, 1, true);
        y.earlier(1, 2, true);
        y.earlier(2, 3, true);
        DOC.due("no mark is in 3", y.earlier(3, 0, true), 0);
        DOC.due("round by way of four inks", y.ink(3, 3), NOT);
        DOC.due("it is where it was", y.mark(3, 1), 0);
        DOC.due("none is left in 2", y.ink(2, 3), 2);
        marks("2 ahead of 0 and 3 ahead of 1", y, 2, "4 13 0 4");
    }

    private static void noneIsEarlier() {
        CrossedSheets x = new CrossedSheets();
        allAreNot("a new object", x);
        DOC.due("it becomes", x.earlier(3, 2, true), 0);
        Check.feed(x, "1}");
        x.sheet();
        DOC.due("it stays with a fault", x.earlier(3, 2, true), 1);
        Check.feed(x, "1");
        x.sheet();
        allAreNot("a sheet", x);
        for (int a = 0; a < 4; a++) {
            for (int b = a + 1; b < 4; b++) {
                x.earlier(a, b, true);
            }
        }
        x.sheet();
        allAreNot("an empty sheet", x);
    }

    private static void allAreNot(String when, CrossedSheets x) {
        for (int a = 0; a < 4; a++) {
            for (int b = 0; b < 4; b++) {
                if (a != b) {
                    DOC.due(when + ": earlier(" + a + ", " + b + ")", x.earlier(a, b, false), 0);
                }
            }
        }
    }

    private static void allAheadOfAll() {
        CrossedSheets x = Check.on("{0:1}{1:1}{2:1}{3:1}{4:1}");
        x.ink(1, 3);
        x.ink(4, 3);
        x.ink(3, 2);
        x.earlier(3, 0, true);
        marks("3 ahead of 0", x, 2, "18 0 18 0 0");
        marks("3 ahead of 0", x, 3, "0 5 0 0 5");
        x.earlier(0, 2, true);
        marks("and 0 ahead of 2", x, 2, "18 0 18 23 0");
        x.earlier(0, 2, false);
        x.earlier(3, 0, false);
        marks("none any more", x, 2, "0 0 0 0 0");
        marks("none any more", x, 3, "0 0 0 0 0");
    }

    private static void whatItWas() {
        CrossedSheets x = Check.on("{0:1}{1:1}");
        for (int a = 0; a < 4; a++) {
            for (int b = 0; b < 4; b++) {
                if (a != b) {
                    DOC.due("not yet", x.earlier(a, b, false), 0);
                    DOC.due("is", x.earlier(a, b, true), 0);
                    DOC.due("is already", x.earlier(a, b, true), 1);
                    DOC.due("the other way round is not", x.earlier(b, a, false), 0);
                    DOC.due("is no more", x.earlier(a, b, false), 1);
                    DOC.due("was not", x.earlier(a, b, false), 0);
                }
            }
        }
    }

    private static void oneInkTwice() {
        CrossedSheets x = Check.on("{0:1}{1:1}");
        x.ink(1, 3);
        for (boolean is : new boolean[] {true, false}) {
            for (int a = 0; a < 4; a++) {
                DOC.due("earlier(" + a + ", " + a + ")", x.earlier(a, a, is), UNKNOWN);
            }
            DOC.dueForAll("earlier(0, ..)", b -> x.earlier(0, (int) b, is), UNKNOWN, -1, 4, LOWEST, HIGHEST);
            DOC.dueForAll("earlier(.., 3)", a -> x.earlier((int) a, 3, is), UNKNOWN, -1, 4, LOWEST, HIGHEST);
            DOC.dueForAll("earlier(i, i)", a -> x.earlier((int) a, (int) a, is), UNKNOWN, -1, 4, LOWEST, HIGHEST);
        }
        marks("as it was", x, 2, "0 0");
    }

    private static void earlierNotNow() {
        CrossedSheets x = Check.on("{0:1[1:2]}{2:3}");
        x.ink(1, 1);
        DOC.due("1 ahead of 0, in which it is", x.earlier(1, 0, true), NOT);
        DOC.due("it is not", x.earlier(1, 0, false), 0);
        marks("musts as they were", x, 2, "0 1 0");
        DOC.due("orders as they were", x.orders(), 3);
        DOC.due("the other way round", x.earlier(0, 1, true), 0);
        marks("musts then", x, 2, "0 5 0");
        DOC.due("both ways", x.earlier(1, 0, true), NOT);
        DOC.due("the first stays", x.earlier(0, 1, true), 1);
        DOC.due("no longer", x.earlier(0, 1, false), 1);
        marks("musts as they were", x, 2, "0 1 0");
        CrossedSheets y = Check.on("{0:1}{1:2}{2:3}{3:4}");
        for (int m = 0; m < 4; m++) {
            y.ink(m, m);
        }
        y.earlier(0, 1, true);
        y.earlier(1, 2, true);
        y.earlier(2, 3, true);
        DOC.due("round by way of all four", y.earlier(3, 0, true), NOT);
        DOC.due("round by way of three", y.earlier(2, 0, true), NOT);
        DOC.due("what is so already, told once more", y.earlier(0, 3, true), 0);
        marks("in a row", y, 2, "0 1 3 7");
    }

    // ---- must

    private static void toldWithin() {
        marks("{0:{1:1}}", 2, "0 1");
        marks("{0:[1:1]}", 2, "0 1");
        marks("{0:<1:1>}*1", 2, "0 1");
        marks("{0:*1}<1:1>", 2, "0 1");
        marks("{0:<1:1>}{2:*1}", 2, "0 5 0");
        marks("{0:(1/1 2)}", 2, "0 1");
        marks("{0:[1!2:1]}", 2, "0 1 3");
        marks("[0:{1:1}]", 2, "0 0");
        marks("[0!1:{2:1}]", 2, "0 1 0");
        marks("<0:{1:1}>*0", 2, "0 0");
        marks("{0:1}{1:1}", 2, "0 0");
        marks("{0:1}*1<1:1>", 2, "0 0");
        marks("{0:[1:<2:(1/3 2)>]}*2", 2, "0 1 1 1");
        marks("{0:1}{1:*2}<2:{3:1}>", 2, "0 0 2 0");
    }

    private static void letsStand() {
        marks("[0!1:1]", 2, "0 1");
        marks("[1!0:1]", 2, "2 0");
        marks("[0!1:[2!3:1]]", 2, "0 1 0 4");
        marks("[0:1][1!2:1]", 2, "0 0 2");
    }

    private static void writesOver() {
        marks("(1/0 2)", 2, "0");
        marks("(1/0 2/1 3)", 2, "0 1");
        marks("(1/1 2/0 3)", 2, "2 0");
        marks("(1/0 2)(1/1 2)", 2, "0 0");
        marks("(1/0 2/1 3)(1/2 2/3 3)", 2, "0 1 0 4");
    }

    private static void stepByStep() {
        marks("(1/0 2/1 3/2 4)", 2, "0 1 3");
        marks("(1/1 2/0 3/2 4)", 2, "2 0 3");
        marks("(1/2 2/1 3/0 4)", 2, "6 4 0");
        marks("(1/2 2/1 3/0 4)", 3, "0 1 3");
        marks("{0:{1:{2:(1/3 2/4 3)}}}", 2, "0 1 3 7 15");
        CrossedSheets x = Check.on("[0!1:1]{2:[3!4:1]}");
        x.ink(1, 1);
        x.ink(2, 2);
        Consumer<String> look = want -> marks("inks", x, 2, want);
        look.accept("0 1 0 4 12");
        x.earlier(1, 2, true);
        look.accept("0 1 3 7 15");
        x.earlier(1, 2, false);
        look.accept("0 1 0 4 12");
        x.earlier(2, 1, true);
        look.accept("0 5 0 4 12");
    }

    // ---- count

    private static void leastAndMostCounts() {
        StringBuilder told = new StringBuilder(ROW);
        for (int k = 0; k < 29; k++) {
            told.append("1 ");
        }
        CrossedSheets x = Check.on(told.toString());
        DOC.due("marks", x.count(0), 10);
        DOC.due("words on the sheet", x.count(1), 40);
        for (int k = 0; k < 50; k++) {
            x.feed(8, 0);
        }
        DOC.due("bytes told", x.count(2), 400);
        for (int c = 0; c < 4; c++) {
            x.copy();
        }
        for (int k = 0; k < 40; k++) {
            x.write(k);
        }
        DOC.due("words of the draft", x.count(3), 40);
        DOC.due("copies", x.count(4), 4);
        for (int k = 0; k < 20; k++) {
            x.bar(k, 99 - k, true);
        }
        DOC.due("barred pairs", x.count(5), 20);
        CrossedSheets empty = new CrossedSheets();
        for (int what = 0; what < 8; what++) {
            DOC.due("nothing of " + what, empty.count(what), 0);
        }
    }

    private static void inksAndSessions() {
        CrossedSheets x = Check.on(ROW);
        DOC.due("one ink", x.count(6), 1);
        DOC.due("one session", x.count(7), 1);
        for (int m = 0; m < 10; m++) {
            x.ink(m, m % 4);
        }
        DOC.due("four inks", x.count(6), 4);
        DOC.due("ten sessions", x.count(7), 10);
        CrossedSheets y = Check.on("{0:1}{1:1}");
        y.ink(0, 3);
        DOC.due("two inks", y.count(6), 2);
        y.ink(1, 3);
        DOC.due("one ink, not the first", y.count(6), 1);
        DOC.due("no mark, no ink", Check.on("1").count(6), 0);
        DOC.due("no mark, no session", Check.on("1").count(7), 0);
    }

    private static void countOutside() {
        CrossedSheets x = Check.on("1{0:1}");
        DOC.due("the last that there is", x.count(7), 1);
        DOC.dueForAll("count", what -> x.count((int) what), OUTSIDE, -1, 8, 9, LOWEST, HIGHEST);
    }
}
