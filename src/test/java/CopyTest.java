/** Promises 23 to 30: the draft and the copies. */
final class CopyTest {
    private static final int NONE = CrossedSheets.NONE;
    private static final int UNKNOWN = CrossedSheets.UNKNOWN;
    private static final int OUTSIDE = CrossedSheets.OUTSIDE;
    private static final int NOT = CrossedSheets.NOT;
    private static final int FULL = CrossedSheets.FULL;
    private static final Check CHECK = new Check("Copy");
    private static final String TEN = "{0:1}{1:1}{2:1}{3:1}{4:1}{5:1}{6:1}{7:1}{8:1}{9:1}";

    public static void main(String[] args) {
        write();
        see();
        copyAndDrop();
        times();
        holds();
        holdsOnTenMarks();
        when();
        whenTheyDoNotHold();
        nearest();
        copiesOutlastTheSheet();
        CHECK.end();
    }

    private static void write() {
        CrossedSheets x = Check.on("1");
        CHECK.due("write(-1)", x.write(-1), OUTSIDE);
        CHECK.due("write(100)", x.write(100), OUTSIDE);
        CHECK.due("write(0)", x.write(0), 1);
        CHECK.due("write(99)", x.write(99), 2);
        for (int k = 3; k <= 40; k++) {
            CHECK.due("write", x.write(1), k);
        }
        CHECK.due("a 41st", x.write(1), FULL);
        CHECK.due("outside ahead of full", x.write(100), OUTSIDE);
        CHECK.due("count(3)", x.count(3), 40);
        CHECK.due("copy()", x.copy(), 0);
        CHECK.due("write(1)", x.write(1), 1);
        CHECK.due("drop()", x.drop(), 40);
    }

    private static void see() {
        CrossedSheets x = Check.on("1{0:2{1:3}}");
        x.write(7);
        CHECK.due("see(3)", x.see(3), 3);
        CHECK.due("count(3)", x.count(3), 3);
        CHECK.due("see(2)", x.see(2), NOT);
        CHECK.due("see(4)", x.see(4), UNKNOWN);
        CHECK.due("see(-1)", x.see(-1), UNKNOWN);
        CHECK.due("count(3)", x.count(3), 3);
        CHECK.due("write behind it", x.write(9), 4);
        x.copy();
        CHECK.due("1 2 3 9 against 1 2 3", x.nearest(0, 0), 1);
        CHECK.due("the sheet's text is as it was", Check.text(x, 3), "1 2 3");
        CHECK.due("see(0)", x.see(0), 1);
        CHECK.due("see(3)", x.see(3), 3);
        CHECK.due("see(0)", x.see(0), 1);
        CHECK.due("write(2)", x.write(2), 2);
        x.copy();
        CHECK.due("1 2 is a text", x.times(1, 0), 1);
    }

    private static void copyAndDrop() {
        CrossedSheets x = Check.on("1{0:2}");
        CHECK.due("drop()", x.drop(), NONE);
        CHECK.due("an empty copy", x.copy(), 0);
        for (int c = 1; c < 4; c++) {
            x.see(c & 1);
            CHECK.due("copy()", x.copy(), c);
            CHECK.due("the draft is empty", x.count(3), 0);
        }
        x.write(5);
        CHECK.due("a fifth", x.copy(), FULL);
        CHECK.due("the draft stays", x.count(3), 1);
        CHECK.due("count(4)", x.count(4), 4);
        CHECK.due("drop()", x.drop(), 2);
        CHECK.due("the draft stays", x.count(3), 1);
        CHECK.due("copy()", x.copy(), 3);
        CHECK.due("drop()", x.drop(), 1);
        CHECK.due("drop()", x.drop(), 1);
        CHECK.due("drop()", x.drop(), 2);
        CHECK.due("drop()", x.drop(), 0);
        CHECK.due("drop()", x.drop(), NONE);
        CHECK.due("count(4)", x.count(4), 0);
    }

    private static void times() {
        CrossedSheets x = Check.on("{0:1}{1:1}[2!3:2]");
        x.write(1);
        x.write(2);
        x.copy();
        int[] want = {1, 2, 13, 14};
        CHECK.due("times(0, -1)", x.times(0, NONE), want.length);
        for (int i = 0; i < want.length; i++) {
            CHECK.due("times(0, " + i + ")", x.times(0, i), want[i]);
        }
        CHECK.due("times(0, 4)", x.times(0, 4), NONE);
        CHECK.due("times(0, -2)", x.times(0, -2), NONE);
        CHECK.due("times(0, min)", x.times(0, Integer.MIN_VALUE), NONE);
        CHECK.due("times(1, 0)", x.times(1, 0), UNKNOWN);
        CHECK.due("times(-1, 0)", x.times(-1, 0), UNKNOWN);
        CHECK.due("times(4, 0)", x.times(4, 0), UNKNOWN);
        x.write(2);
        x.write(1);
        x.copy();
        CHECK.due("another order of words", x.times(1, NONE), 0);
        CHECK.due("times(1, 0)", x.times(1, 0), NONE);
        x.ink(0, 1);
        x.earlier(1, 0, true);
        CHECK.due("times with inks", x.times(0, NONE), 2);
        CHECK.due("times with inks", x.times(0, 1), 13);
        x.drop();
        CHECK.due("a copy that is gone", x.times(1, NONE), UNKNOWN);
    }

    private static void copyOf(CrossedSheets x, int... words) {
        for (int w : words) {
            x.write(w);
        }
        x.copy();
    }

    private static void holds() {
        CrossedSheets x = Check.on("{0:1}{1:1}{2:1}");
        CHECK.due("without copies", x.holds(), 1);
        copyOf(x, 1);
        CHECK.due("one word", x.holds(), 3);
        copyOf(x, 1, 1);
        CHECK.due("then two", x.holds(), 6);
        copyOf(x, 1, 1);
        CHECK.due("the same time twice", x.holds(), 6);
        copyOf(x, 1, 1, 1);
        CHECK.due("then three", x.holds(), 6);
        x.drop();
        copyOf(x, 1);
        CHECK.due("back to one", x.holds(), 0);
        x.drop();
        x.drop();
        x.drop();
        CHECK.due("one word", x.holds(), 3);
        x.drop();
        copyOf(x, 5);
        CHECK.due("what it never said", x.holds(), 0);
    }

    private static void holdsOnTenMarks() {
        CrossedSheets x = Check.on(TEN);
        copyOf(x, 1, 1);
        copyOf(x, 1, 1, 1, 1, 1);
        copyOf(x, 1, 1, 1, 1, 1, 1, 1);
        copyOf(x, 1, 1, 1, 1, 1, 1, 1, 1, 1);
        CHECK.due("2 of 5 of 7 of 9 of 10", x.holds(), 10 * 36 * 21 * 10);
        CrossedSheets y = Check.on("(1/0 1/1 1/2 1/3 1/4 1/5 1/6 1/7 1/8 1/9 1)");
        for (int c = 0; c < 4; c++) {
            copyOf(y, 1);
        }
        CHECK.due("four of eleven times in a row", y.holds(), 1001);
        CrossedSheets z = Check.on("1<0:2>*0<1:2>*1<2:2>*2<3:2>*3<4:2>*4<5:2>*5<6:2>*6<7:2>*7<8:2>*8<9:2>*9");
        for (int c = 0; c < 4; c++) {
            z.see(0);
            z.copy();
        }
        CHECK.due("each mark ahead of one of four or behind all", z.holds(), 9765625);
        CHECK.due("idle()", z.idle(), 1023);
        CHECK.due("when(0, 1)", z.when(0, 1), 1023);
        CHECK.due("when(3, 0)", z.when(3, 0), 0);
    }

    private static void when() {
        CrossedSheets x = Check.on("{0:1}{1:1}{2:1}[3!4:2]");
        copyOf(x, 1, 2);
        copyOf(x, 1, 1);
        copyOf(x, 1, 1, 2);
        CHECK.due("holds()", x.holds(), 6);
        CHECK.due("when(0, 0)", x.when(0, 0), 1);
        CHECK.due("when(0, 1)", x.when(0, 1), 1);
        CHECK.due("when(1, 0)", x.when(1, 0), 11);
        CHECK.due("when(1, 1)", x.when(1, 1), 11);
        CHECK.due("when(2, 0)", x.when(2, 0), 27);
        CHECK.due("when(2, 1)", x.when(2, 1), 27);
        CHECK.due("when(3, 0)", x.when(3, 0), UNKNOWN);
        CHECK.due("when(-1, 0)", x.when(-1, 0), UNKNOWN);
        CHECK.due("when(0, 2)", x.when(0, 2), OUTSIDE);
        CHECK.due("when(0, -1)", x.when(0, -1), OUTSIDE);
        CHECK.due("unknown ahead of outside", x.when(3, 2), UNKNOWN);
        CrossedSheets y = Check.on("{0:1}{1:1}[2!3:2]");
        copyOf(y, 1, 2);
        CHECK.due("the fewest marks, the least", y.when(0, 0), 1);
        CHECK.due("the most marks, the least", y.when(0, 1), 13);
        copyOf(y, 1);
        CHECK.due("ahead of a copy without 2", y.when(0, 1), 1);
        CHECK.due("behind it", y.when(1, 0), 5);
        y.drop();
        y.drop();
        copyOf(y, 1);
        copyOf(y, 1, 2);
        CHECK.due("behind a copy without 2", y.when(1, 0), 13);
        CHECK.due("ahead of it", y.when(0, 0), 5);
        CrossedSheets u = Check.on("<0:1>*0 2{1:3}");
        copyOf(u, 1, 2);
        CHECK.due("a mark that changes nothing", u.times(0, NONE), 2);
        CHECK.due("the first time", u.times(0, 0), 0);
        CHECK.due("one mark more", u.when(0, 1), 1);
        copyOf(u, 1, 2, 3);
        CHECK.due("ahead of a mark more", u.when(0, 0), 0);
        CHECK.due("the fewest marks of the second", u.when(1, 0), 2);
        CHECK.due("the most marks of the second", u.when(1, 1), 3);
        CrossedSheets v = Check.on("1{0:2}");
        copyOf(v, 1);
        copyOf(v, 1, 2);
        CHECK.due("mark 0 comes between", v.when(0, 0), 0);
        CHECK.due("mark 0 comes between", v.when(0, 1), 0);
        CHECK.due("mark 0 has come", v.when(1, 0), 1);
        CrossedSheets z = Check.on("[0!1:1]{2:1}");
        copyOf(z, 1);
        copyOf(z, 1, 1);
        CHECK.due("a time with more marks that is less", z.when(0, 0), 0);
        CHECK.due("the most of two", z.when(0, 1), 3);
        CHECK.due("the second", z.when(1, 0), 4);
        CHECK.due("the second", z.when(1, 1), 7);
    }

    private static void whenTheyDoNotHold() {
        CrossedSheets x = Check.on("{0:1}{1:2}");
        copyOf(x, 1);
        CHECK.due("when(0, 0)", x.when(0, 0), 1);
        copyOf(x, 2);
        for (int c = 0; c < 2; c++) {
            CHECK.due("they do not hold", x.when(c, 0), NONE);
            CHECK.due("they do not hold", x.when(c, 1), NONE);
            CHECK.due("but have times", x.times(c, NONE), 1);
        }
        x.drop();
        CHECK.due("they do again", x.when(0, 1), 1);
        x.earlier(0, 1, true);
        x.ink(0, 1);
        CHECK.due("not behind an ink", x.when(0, 1), NONE);
    }

    private static void near(CrossedSheets x, int c, int far, int set) {
        CHECK.due("nearest(" + c + ", 0)", x.nearest(c, 0), far);
        CHECK.due("nearest(" + c + ", 1)", x.nearest(c, 1), set);
    }

    private static void nearest() {
        CrossedSheets y = Check.on("(1/0 9)2 3");
        copyOf(y, 9);
        CHECK.due("nearest ahead of any other call", y.nearest(0, 1), 1);
        CrossedSheets x = Check.on("1{0:2}{1:3}(4/2 5)");
        copyOf(x);
        near(x, 0, 2, 0);
        copyOf(x, 1, 2, 3, 5);
        near(x, 1, 0, 7);
        copyOf(x, 1, 9, 4);
        near(x, 2, 1, 0);
        copyOf(x, 2, 3, 6, 7);
        near(x, 3, 3, 2);
        CHECK.due("nearest(4, 0)", x.nearest(4, 0), UNKNOWN);
        CHECK.due("nearest(-1, 0)", x.nearest(-1, 0), UNKNOWN);
        CHECK.due("nearest(0, 2)", x.nearest(0, 2), OUTSIDE);
        CHECK.due("nearest(0, -1)", x.nearest(0, -1), OUTSIDE);
        CHECK.due("unknown ahead of outside", x.nearest(4, 2), UNKNOWN);
        x.drop();
        CHECK.due("a copy that is gone", x.nearest(3, 0), UNKNOWN);
        copyOf(x, 1, 2, 4);
        near(x, 3, 0, 1);
        x.ink(1, 1);
        x.ink(2, 2);
        x.earlier(1, 0, true);
        x.earlier(2, 1, true);
        near(x, 3, 1, 0);
    }

    private static void copiesOutlastTheSheet() {
        CrossedSheets x = Check.on("1 2");
        x.see(0);
        x.copy();
        x.write(4);
        CHECK.due("when(0, 0)", x.when(0, 0), 0);
        Check.feed(x, "{0:1}{1:2}");
        x.sheet();
        CHECK.due("times(0, 0)", x.times(0, 0), 3);
        CHECK.due("when(0, 0)", x.when(0, 0), 3);
        Check.feed(x, "3");
        x.sheet();
        CHECK.due("times(0, -1)", x.times(0, NONE), 0);
        CHECK.due("nearest(0, 0)", x.nearest(0, 0), 2);
        CHECK.due("the draft stays", x.write(5), 2);
    }
}
