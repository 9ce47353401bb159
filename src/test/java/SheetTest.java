/** Promises 1 to 9: a new object and the sheet. */
final class SheetTest {
    private static final int NONE = CrossedSheets.NONE;
    private static final int UNKNOWN = CrossedSheets.UNKNOWN;
    private static final int OUTSIDE = CrossedSheets.OUTSIDE;
    private static final int NOT = CrossedSheets.NOT;
    private static final int FULL = CrossedSheets.FULL;
    private static final Check CHECK = new Check("Sheet");

    public static void main(String[] args) {
        newObject();
        feed();
        sheetKeepsAndForgets();
        sheetTwice();
        faultsOfPlace();
        faultsOfNumbers();
        faultsOfMarks();
        faultsOfWordsAndDepth();
        faultsOfArrows();
        faultsOfGaps();
        print();
        markKinds();
        markMust();
        markInside();
        ink();
        earlier();
        earlierWithoutMarks();
        count();
        CHECK.end();
    }

    private static void newObject() {
        CrossedSheets x = new CrossedSheets();
        for (int what = 0; what < 8; what++) {
            CHECK.due("count of a new object " + what, x.count(what), 0);
        }
        CHECK.due("count(8)", x.count(8), OUTSIDE);
        CHECK.due("count(-1)", x.count(-1), OUTSIDE);
        CHECK.due("fault()", x.fault(), NONE);
        CHECK.due("print(-1)", x.print(NONE), 0);
        CHECK.due("print(0)", x.print(0), NONE);
        CHECK.due("mark(0, 0)", x.mark(0, 0), UNKNOWN);
        CHECK.due("good(0)", x.good(0), 0);
        CHECK.due("good(1)", x.good(1), NONE);
        CHECK.due("next(0)", x.next(0), 0);
        CHECK.due("next(1)", x.next(1), UNKNOWN);
        CHECK.due("orders()", x.orders(), 1);
        CHECK.due("order(0, 0)", x.order(0, 0), NONE);
        CHECK.due("text(0, -1)", x.text(0, NONE), 0);
        CHECK.due("view(0)", x.view(0), 0);
        CHECK.due("times(0, -1)", x.times(0, NONE), UNKNOWN);
        CHECK.due("drop()", x.drop(), NONE);
        CHECK.due("holds()", x.holds(), 1);
        CHECK.due("clean()", x.clean(), 1);
        CHECK.due("least()", x.least(), 0);
        CHECK.due("bar(1, 2, false)", x.bar(1, 2, false), 0);
    }

    private static void feed() {
        CrossedSheets x = new CrossedSheets();
        CHECK.due("feed(0)", x.feed(0, 49), OUTSIDE);
        CHECK.due("feed(9)", x.feed(9, 49), OUTSIDE);
        CHECK.due("feed(-1)", x.feed(-1, 49), OUTSIDE);
        CHECK.due("feed(min)", x.feed(Integer.MIN_VALUE, 49), OUTSIDE);
        CHECK.due("count(2)", x.count(2), 0);
        CHECK.due("feed(3)", x.feed(3, Check.pack("xxxxx1 2")), 3);
        CHECK.due("sheet()", x.sheet(), 0);
        CHECK.due("the lowest bytes, the highest first", Check.printed(x), "1 2");
        for (int k = 0; k < 49; k++) {
            x.feed(8, Check.pack("1 2 3 4 "));
        }
        CHECK.due("feed to 399", x.feed(7, Check.pack("       ")), 399);
        CHECK.due("feed 2 more", x.feed(2, Check.pack("  ")), FULL);
        CHECK.due("outside ahead of full", x.feed(9, 0), OUTSIDE);
        CHECK.due("count(2)", x.count(2), 399);
        CHECK.due("feed 1 more", x.feed(1, ' '), 400);
        CHECK.due("feed 1 more", x.feed(1, ' '), FULL);
        CHECK.due("196 words", x.sheet(), -14);
        CHECK.due("the 41st", x.fault(), 80);
        CHECK.due("nothing is told then", x.count(2), 0);
        CHECK.due("all bytes count", Check.fault(x, "1" + (char) 255), "1@1");
        CHECK.due("a sign of 8 bits", Check.fault(x, "1" + (char) (128 + 32)), "1@1");
        CHECK.due("a byte 0", Check.fault(x, "1" + (char) 0 + "2"), "1@1");
    }

    private static void sheetKeepsAndForgets() {
        CrossedSheets x = Check.on("1{0:2}[1:3]");
        x.see(1);
        x.copy();
        x.write(7);
        x.bar(1, 2, true);
        x.ink(0, 2);
        x.earlier(2, 0, true);
        CHECK.due("a sheet with a fault", Check.fault(x, "1{0:2"), "1@5");
        CHECK.due("is not the sheet", Check.printed(x), "1{0:2}[1:3]");
        CHECK.due("nor are its inks", x.mark(0, 1), 2);
        CHECK.due("nor its musts", x.mark(1, 2), 1);
        CHECK.due("nor earlier", x.earlier(2, 0, true), 1);
        CHECK.due("text", Check.text(x, 1), "1 2 3");
        CHECK.due("nothing is told", x.count(2), 0);
        Check.feed(x, "{1:5}{0:6}");
        CHECK.due("another sheet", x.sheet(), 2);
        CHECK.due("has no fault", x.fault(), NONE);
        CHECK.due("nothing is told", x.count(2), 0);
        CHECK.due("inks are 0", x.mark(0, 1), 0);
        CHECK.due("no must", x.mark(1, 2), 0);
        CHECK.due("none is earlier", x.earlier(2, 0, false), 0);
        CHECK.due("copies stay", x.count(4), 1);
        CHECK.due("the draft stays", x.count(3), 1);
        CHECK.due("barred stays", x.bar(1, 2, true), 1);
        CHECK.due("times on the new sheet", x.times(0, NONE), 0);
        CHECK.due("nothing told", x.sheet(), 0);
        CHECK.due("is an empty sheet", x.print(NONE), 0);
        CHECK.due("orders()", x.orders(), 1);
        CHECK.due("text", x.text(0, NONE), 0);
        CHECK.due("mark(0, 0)", x.mark(0, 0), UNKNOWN);
    }

    private static void sheetTwice() {
        CrossedSheets x = Check.on("{0:1}[1!2:2]<3:3>*3(4/4 5)");
        CHECK.due("marks", x.count(0), 5);
        Check.feed(x, "[0:7]8");
        CHECK.due("one mark", x.sheet(), 1);
        CHECK.due("kind", x.mark(0, 0), 1);
        CHECK.due("no other marks", x.mark(1, 0), UNKNOWN);
        CHECK.due("text", Check.text(x, 0) + "," + Check.text(x, 1), "7 8,8");
        Check.feed(x, "[0!1:7]8");
        x.sheet();
        CHECK.due("with a mark that lets stand", Check.text(x, 3), "7 8");
        Check.feed(x, "[0:7]{1:8}");
        x.sheet();
        CHECK.due("and without again", Check.text(x, 3), "8");
        CHECK.due("no must is left", x.mark(1, 2), 0);
    }

    private static void fault(String told, String want) {
        CrossedSheets x = new CrossedSheets();
        CHECK.due("the fault of '" + told + "'", Check.fault(x, told), want);
    }

    private static void faultsOfPlace() {
        fault("", "0@-1");
        fault("   ", "0@-1");
        fault("1", "0@-1");
        fault(" { 0 : 1 } ", "0@-1");
        fault("[ 0 ! 1 : 1 ]", "0@-1");
        fault("( 1 / 0 2 / 1 3 )", "0@-1");
        fault("< 0 : 1 > * 0", "0@-1");
        fault("a", "1@0");
        fault("1\t2", "1@1");
        fault("}", "1@0");
        fault(":", "1@0");
        fault("!", "1@0");
        fault("/", "1@0");
        fault(")", "1@0");
        fault("{", "1@1");
        fault("{}", "1@1");
        fault("{ ", "1@2");
        fault("{0", "1@2");
        fault("{0 1:2}", "1@3");
        fault("{0!1:2}", "1@2");
        fault("<0!1:2>*0", "1@2");
        fault("[0!:2]", "1@3");
        fault("[0!1!2:2]", "1@4");
        fault("{0:", "1@3");
        fault("{0:}", "1@3");
        fault("{0:1", "1@4");
        fault("{0:1  ", "1@6");
        fault("{0:1]", "1@4");
        fault("[0:1}", "1@4");
        fault("<0:1]*0", "1@4");
        fault("{0:[1:2}]", "1@7");
        fault("{0:{1:2}", "1@8");
        fault("1]", "1@1");
        fault("(", "1@1");
        fault("()", "1@1");
        fault("(1", "1@2");
        fault("(1)", "1@2");
        fault("(1 2/0 3)", "1@3");
        fault("(1/)", "1@3");
        fault("(1/0)", "1@4");
        fault("(1/0 2", "1@6");
        fault("(1/0 2 3)", "1@7");
        fault("(1/0 2/)", "1@7");
        fault("({0:1}/1 2)", "1@1");
        fault("(1/0 {1:2})", "1@5");
        fault("(1/0 (2/1 3))", "1@5");
        fault("*", "1@1");
        fault("*:", "1@1");
        fault("**", "1@1");
        fault("{*:1}", "1@1");
        fault("<0:1*0>", "1@4");
        fault("<0:*1>", "1@3");
        fault("<0:{1:2*0}>", "1@7");
        fault("<0:[1:2{2:*0}]>", "1@10");
        fault("<0:<1:2>>*0{2:*1}", "0@-1");
        fault("*0<0:1>", "0@-1");
    }

    private static void faultsOfNumbers() {
        fault("99", "0@-1");
        fault("00", "0@-1");
        fault("100", "2@0");
        fault("000", "2@0");
        fault("1 2 0345", "2@4");
        fault("{10:1}", "2@1");
        fault("{09:1}{00:1}{01:1}{02:1}{03:1}{04:1}{05:1}{06:1}{07:1}{08:1}", "0@-1");
        fault("{009:1}", "2@1");
        fault("[0!10:1]", "2@3");
        fault("*10", "2@1");
        fault("* 99", "2@2");
        fault("(1/23)", "2@3");
        fault("(1/0 234)", "2@5");
        fault("(123/0 2)", "2@1");
        fault("{0 123:1}", "1@3");
        fault("{0:1}{0 123", "3@6");
        fault("{0:1}{000:2}", "2@6");
        fault("{0:123", "2@3");
    }

    private static void faultsOfMarks() {
        fault("{0:1}{0:2}", "3@6");
        fault("{0:{0:2}}", "3@4");
        fault("[0!0:1]", "3@3");
        fault("[0!1:1]<1:2>", "3@8");
        fault("(1/0 2/0 3)", "3@7");
        fault("(1/0 2){ 00:1}", "3@9");
        fault("<0:1>*0*0", "3@8");
        fault("*0*0<0:1>", "3@3");
        fault("*0 * 0", "3@5");
        fault("{0:1}*0", "6@5");
        fault("{0:1} {0", "3@7");
    }

    private static void faultsOfWordsAndDepth() {
        StringBuilder forty = new StringBuilder();
        for (int k = 0; k < 40; k++) {
            forty.append(k).append(' ');
        }
        fault(forty.toString(), "0@-1");
        fault(forty + "1", "4@" + forty.length());
        fault(forty + "123", "2@" + forty.length());
        fault(forty + "(1/0 2)", "4@" + (forty.length() + 1));
        fault(forty + "{0:1}", "4@" + (forty.length() + 3));
        fault(forty + "{0}", "1@" + (forty.length() + 2));
        fault(forty.substring(2) + "(1/0 2)", "4@" + (forty.length() - 2 + 5));
        fault("<0:" + forty + ">*0", "0@-1");
        fault("{0:{1:{2:{3:{4:{5:{6:{7:(1/8 2)}}}}}}}}", "0@-1");
        fault("{0:[1:<2:{3:[4:{5:{6:{7:{8:1}}}}}]}>]}", "5@24");
        fault("{0:[1:<2:{3:[4:{5:{6:{7:[0:1]}}}}}]}>]}", "5@24");
        fault("{0:[1:<2:{3:[4:{5:{6:{7:<", "5@24");
        fault("{0:[1:<2:{3:[4:{5:{6:{7:1}{8:2}}}]}>]}*2", "0@-1");
        fault("{0:[1:<2:{3:[4:{5:{6:{7{8:2}}}}]}>]}*2", "1@23");
    }

    private static void faultsOfArrows() {
        fault("1 *0", "6@2");
        fault("1 <0:1>", "6@2");
        fault("*1 <0:1>", "6@0");
        fault("<0:1>*1", "6@0");
        fault("*1<1:2>  *2 <0:1>", "6@9");
        fault("<0:1>{1:2}*1*0", "6@10");
        fault("[0!1:2]*1", "6@7");
        fault("(1/0 2)*0", "6@7");
        fault("<5:1>", "6@0");
        fault("<0:1>}", "1@5");
        fault("*9", "6@0");
    }

    private static void faultsOfGaps() {
        fault("{1:5}", "7@5");
        fault("{1:5}  ", "7@7");
        fault("{0:1}{2:5}", "7@10");
        fault("(1/9 2)", "7@7");
        fault("<1:1>*1", "7@7");
        fault("[0!2:1]", "7@7");
        fault("[2!0:1]{1:3}", "0@-1");
    }

    private static void printed(String told, String want) {
        CHECK.due("print of '" + told + "'", Check.printed(Check.on(told)), want);
    }

    private static void print() {
        printed("", "");
        printed("  01   2 ", "1 2");
        printed("00 { 00 : 07 } 5", "0{0:7}5");
        printed("[ 0 ! 01 : 1 10 ] 9", "[0!1:1 10]9");
        printed("< 0 : 1 > * 0 5", "<0:1>*0 5");
        printed("<0:1>*0{1:2}", "<0:1>*0{1:2}");
        printed("1 ( 02 / 00 03 / 1 4 ) 5", "1(2/0 3/1 4)5");
        printed("(8/0 9)(1/1 2)", "(8/0 9)(1/1 2)");
        CrossedSheets x = Check.on(" 1 2");
        CHECK.due("print(-1)", x.print(NONE), 3);
        CHECK.due("print(2)", x.print(2), '2');
        CHECK.due("print(3)", x.print(3), NONE);
        CHECK.due("print(-2)", x.print(-2), NONE);
        CHECK.due("print(max)", x.print(Integer.MAX_VALUE), NONE);
        CHECK.due("print(min)", x.print(Integer.MIN_VALUE), NONE);
    }

    private static void marks(CrossedSheets x, int what, String want) {
        CHECK.due("mark(all, " + what + ") of " + Check.printed(x), Check.marks(x, what), want);
    }

    private static void markKinds() {
        CrossedSheets x = Check.on("{0:[1!2:1<3:2(3/4 4/5 5)>]}*3");
        marks(x, 0, "0 1 2 3 4 4");
        marks(x, 1, "0 0 0 0 0 0");
        marks(x, 5, "0 1 1 2 3 3");
        CHECK.due("mark(6, 0)", x.mark(6, 0), UNKNOWN);
        CHECK.due("mark(-1, 0)", x.mark(-1, 0), UNKNOWN);
        CHECK.due("mark(0, 6)", x.mark(0, 6), OUTSIDE);
        CHECK.due("mark(0, -1)", x.mark(0, -1), OUTSIDE);
        CHECK.due("unknown ahead of outside", x.mark(6, 6), UNKNOWN);
    }

    private static void markMust() {
        marks(Check.on("{0:[1!2:1<3:2(3/4 4/5 5)>]}*3"), 2, "0 1 3 1 1 17");
        marks(Check.on("{0:[1!2:1<3:2(3/4 4/5 5)>]}*3"), 3, "62 4 0 0 32 0");
        marks(Check.on("[0:{1:1}]<2:{3:2}>*2"), 2, "0 0 0 0");
        marks(Check.on("{0:1{1:2{2:*3}}}<3:4>"), 2, "0 1 3 7");
        marks(Check.on("{0:<1:1>}{2:*1}"), 2, "0 5 0");
        marks(Check.on("(1/2 2/0 3/1 4)"), 2, "4 5 0");
        marks(Check.on("(1/2 2/1 3/0 4)"), 2, "6 4 0");
        marks(Check.on("(1/2 2/1 3/0 4)"), 3, "0 1 3");
        CrossedSheets x = Check.on("{0:1}{1:2}{2:[3:3]}");
        x.ink(0, 1);
        x.ink(1, 2);
        x.ink(2, 3);
        x.ink(3, 3);
        x.earlier(1, 2, true);
        marks(x, 2, "0 1 0 4");
        x.earlier(2, 3, true);
        marks(x, 1, "1 2 3 3");
        marks(x, 2, "0 1 3 7");
        marks(x, 3, "14 12 8 0");
    }

    private static void markInside() {
        marks(Check.on("{0:1[1!2:2(3/3 4/4 5)]6}<5:7{6:8 9}>*5"), 4, "6 4 4 1 1 3 2");
        marks(Check.on("[1!0:6 7]"), 4, "2 2");
        marks(Check.on("{0:*1}<1:5>[2:6 7][3!4:8]"), 4, "0 1 2 1 1");
    }

    private static void ink() {
        CrossedSheets x = Check.on("{0:1[1:2]}{2:3}");
        CHECK.due("ink(0, 1)", x.ink(0, 1), 0);
        CHECK.due("ink(0, 3)", x.ink(0, 3), 1);
        CHECK.due("ink(0, 3)", x.ink(0, 3), 3);
        CHECK.due("ink(0, 4)", x.ink(0, 4), UNKNOWN);
        CHECK.due("ink(0, -1)", x.ink(0, -1), UNKNOWN);
        CHECK.due("ink(3, 0)", x.ink(3, 0), UNKNOWN);
        CHECK.due("ink(-1, 0)", x.ink(-1, 0), UNKNOWN);
        CHECK.due("mark(0, 1)", x.mark(0, 1), 3);
        x.earlier(1, 3, true);
        CHECK.due("1 would be ahead of 0", x.ink(1, 1), NOT);
        CHECK.due("it is in its ink", x.mark(1, 1), 0);
        CHECK.due("and behind as it was", x.mark(1, 2), 1);
        CHECK.due("good(-1)", x.good(NONE), 6);
        CHECK.due("ink(2, 1)", x.ink(2, 1), 0);
        CHECK.due("0 is behind 2", x.mark(0, 2), 4);
        CHECK.due("and so is 1", x.mark(1, 2), 5);
        CHECK.due("ink(2, 3)", x.ink(2, 3), 1);
        CHECK.due("no more", x.mark(0, 2), 0);
    }

    private static void earlier() {
        CrossedSheets x = Check.on("{0:1[1:2]}{2:3}");
        x.ink(0, 1);
        x.ink(1, 2);
        x.ink(2, 3);
        CHECK.due("earlier(2, 1)", x.earlier(2, 1, true), NOT);
        CHECK.due("it is not", x.earlier(2, 1, false), 0);
        CHECK.due("earlier(2, 3)", x.earlier(2, 3, true), 0);
        CHECK.due("round by way of 0 and 1", x.earlier(3, 1, true), NOT);
        CHECK.due("mark(2, 2)", x.mark(2, 2), 3);
        CHECK.due("earlier(2, 3)", x.earlier(2, 3, true), 1);
        CHECK.due("earlier(2, 3) no more", x.earlier(2, 3, false), 1);
        CHECK.due("earlier(2, 3) no more", x.earlier(2, 3, false), 0);
        CHECK.due("mark(2, 2)", x.mark(2, 2), 0);
        CHECK.due("earlier(3, 1)", x.earlier(3, 1, true), 0);
        CHECK.due("mark(1, 2)", x.mark(1, 2), 5);
        for (boolean is : new boolean[] {true, false}) {
            CHECK.due("one twice", x.earlier(2, 2, is), UNKNOWN);
            CHECK.due("earlier(4, 0)", x.earlier(4, 0, is), UNKNOWN);
            CHECK.due("earlier(0, 4)", x.earlier(0, 4, is), UNKNOWN);
            CHECK.due("earlier(-1, 0)", x.earlier(-1, 0, is), UNKNOWN);
            CHECK.due("earlier(0, -1)", x.earlier(0, -1, is), UNKNOWN);
        }
    }

    /** Only marks have to be ahead of one another: inks without a mark bind nothing. */
    private static void earlierWithoutMarks() {
        CrossedSheets x = Check.on("{0:1}{1:2}");
        CHECK.due("earlier(1, 2)", x.earlier(1, 2, true), 0);
        CHECK.due("earlier(2, 1)", x.earlier(2, 1, true), 0);
        CHECK.due("ink(0, 1)", x.ink(0, 1), 0);
        CHECK.due("ink(1, 2)", x.ink(1, 2), NOT);
        CHECK.due("earlier(2, 1) no more", x.earlier(2, 1, false), 1);
        CHECK.due("ink(1, 2)", x.ink(1, 2), 0);
        CHECK.due("1 is behind 0", x.mark(1, 2), 1);
        CHECK.due("ink(1, 0)", x.ink(1, 0), 2);
        CHECK.due("earlier(2, 0)", x.earlier(2, 0, true), 0);
        CHECK.due("no step by way of an ink without marks", x.mark(1, 2), 0);
    }

    private static void count() {
        CrossedSheets x = Check.on("1{0:2}(3/1 4/2 5)[3!4:6]");
        x.ink(1, 1);
        x.ink(4, 3);
        x.write(1);
        x.write(1);
        x.copy();
        x.write(1);
        x.bar(1, 1, true);
        x.bar(1, 2, true);
        x.feed(5, 0);
        int[] want = {5, 6, 5, 1, 1, 2, 3, 3};
        for (int what = 0; what < want.length; what++) {
            CHECK.due("count(" + what + ")", x.count(what), want[what]);
        }
        CrossedSheets y = Check.on("{0:1}{1:2}");
        y.ink(0, 1);
        CHECK.due("count(6)", y.count(6), 2);
        y.ink(1, 1);
        CHECK.due("count(6)", y.count(6), 1);
        CHECK.due("count(8)", x.count(8), OUTSIDE);
        CHECK.due("count(-1)", x.count(-1), OUTSIDE);
        CHECK.due("count(min)", x.count(Integer.MIN_VALUE), OUTSIDE);
    }
}
