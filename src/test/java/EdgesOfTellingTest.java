import java.util.ArrayList;
import java.util.List;

/** The sentences of section 1 of 'Terms' on the text that is told, its faults and print, and promises 2 to 5. */
final class EdgesOfTellingTest {
    private static final int NONE = CrossedSheets.NONE;
    private static final int OUTSIDE = CrossedSheets.OUTSIDE;
    private static final int FULL = CrossedSheets.FULL;
    private static final int LOWEST = Integer.MIN_VALUE;
    private static final int HIGHEST = Integer.MAX_VALUE;
    private static final String RIGHT = "0@-1";
    private static final String FIGURES = " 0123456789";
    private static final String ITEMS = FIGURES + "{[<*(";
    private static final String ITEMS_MOVED = FIGURES + "{[<(";
    private static final Sentences DOC = new Sentences("EdgesOfTelling");

    public static void main(String[] args) {
        DOC.says("Promise 2", "The lowest n bytes (1 .. 8) of a long, the highest of these first",
            EdgesOfTellingTest::oneToEightBytes);
        DOC.says("Promise 2", "come behind THE TEXT that is told: how many it has",
            EdgesOfTellingTest::bytesComeBehind);
        DOC.says("Promise 2", "OUTSIDE, FULL (400)", EdgesOfTellingTest::fourHundredBytes);
        DOC.says("Terms 1", "THE SHEET is told in a text (400 bytes at most)", EdgesOfTellingTest::longestText);
        DOC.says("Terms 1", "WORDS are 0 to 99", EdgesOfTellingTest::leastAndGreatestWord);
        DOC.says("Terms 1", "sheet = {item}", EdgesOfTellingTest::anyNumberOfItems);
        DOC.says("Terms 1", "item = W | '{' M ':' item {item} '}'", EdgesOfTellingTest::signsOfPutIn);
        DOC.says("Terms 1", "'[' M ['!' M] ':' item {item} ']'", EdgesOfTellingTest::signsOfStruckOut);
        DOC.says("Terms 1", "'<' M ':' item {item} '>' | '*' M", EdgesOfTellingTest::signsOfMoved);
        DOC.says("Terms 1", "'(' W '/' M W {'/' M W} ')'", EdgesOfTellingTest::signsOfWrittenOver);
        DOC.says("Terms 1", "MARKS are 0 to 9, each told once ('*' M besides)", EdgesOfTellingTest::eachMarkOnce);
        DOC.says("Terms 1", "There are as many as the greatest and one",
            EdgesOfTellingTest::asManyAsTheGreatestAndOne);
        DOC.says("Terms 1", "NUMBERS have one or two figures", EdgesOfTellingTest::oneOrTwoFigures);
        DOC.says("Terms 1", "blanks (32) may stand anywhere but within NUMBERS", EdgesOfTellingTest::blanks);
        DOC.says("Terms 1", "two NUMBERS side by side need one", EdgesOfTellingTest::numbersSideBySide);
        DOC.says("Terms 1", "At most 40 WORDS stand in it (each of a '(' is one)", EdgesOfTellingTest::fortyWords);
        DOC.says("Terms 1", "FAULTS, at the first byte that has one", EdgesOfTellingTest::theFirstFault);
        DOC.says("Terms 1", "(the end at the text's length)", EdgesOfTellingTest::faultAtTheEnd);
        DOC.says("Terms 1", "of these the least", EdgesOfTellingTest::theLeastFault);
        DOC.says("Terms 1", "1 it cannot stand there (also a '*' within a '<')", EdgesOfTellingTest::starWithinArrow);
        DOC.says("Terms 1", "2 a NUMBER of three figures or more", EdgesOfTellingTest::threeFigures);
        DOC.says("Terms 1", "or out of its bounds (W above 99, M above 9; at its first)",
            EdgesOfTellingTest::markAboveNine);
        DOC.says("Terms 1", "3 a MARK that was told already, a second '*' of it (at its first)",
            EdgesOfTellingTest::toldAlready);
        DOC.says("Terms 1", "4 a 41st WORD (at its first)", EdgesOfTellingTest::the41stWord);
        DOC.says("Terms 1", "5 brackets '{', '[', '<' more than eight deep (at the ninth)",
            EdgesOfTellingTest::nineDeep);
        DOC.says("Terms 1", "If there is none of these: 6", EdgesOfTellingTest::loneArrowBehindOtherFaults);
        DOC.says("Terms 1", "6 a '*' whose MARK has no '<', or a '<' without '*'", EdgesOfTellingTest::loneArrow);
        DOC.says("Terms 1", "(at the first byte, '*' or '<', of the first such)", EdgesOfTellingTest::firstLoneArrow);
        DOC.says("Terms 1", "else 7 a MARK below the greatest that is not told (at the text's length)",
            EdgesOfTellingTest::markNotTold);
        DOC.says("Terms 1", "NUMBERS without needless figures, one blank between two NUMBERS side by side, none else",
            EdgesOfTellingTest::printed);
        DOC.says("Promise 3", "What is told (nothing then, with a FAULT, too) becomes THE SHEET",
            EdgesOfTellingTest::nothingIsToldThen);
        DOC.says("Promise 3", "becomes THE SHEET", EdgesOfTellingTest::nothingOfEarlierSheets);
        DOC.says("Promise 3", "(COPIES and what is BARRED stay)", EdgesOfTellingTest::copiesAndBarredStay);
        DOC.says("Promise 3", "how many MARKS", EdgesOfTellingTest::anEmptySheetAgain);
        DOC.says("Promise 3", "-10 less the number of its FAULT", EdgesOfTellingTest::numbersOfFaults);
        DOC.says("Promise 3", "(all else is as it was)", EdgesOfTellingTest::faultyChangesNothing);
        DOC.says("Promise 4", "The place (from 0 on) of the byte that has the FAULT of the latest sheet(); NONE",
            EdgesOfTellingTest::placeOfTheFault);
        DOC.says("Promise 5", "Byte i of THE SHEET as PRINTED; i = NONE: how many it has",
            EdgesOfTellingTest::printedBytes);
        DOC.says("Promise 5", "NONE: not so many (i below NONE, too)", EdgesOfTellingTest::printedNotSoMany);
        DOC.end();
    }

    private static String repeated(String what, int times) {
        return what.repeat(Math.max(0, times));
    }

    private static void right(String told) {
        DOC.dueFault(told, RIGHT);
    }

    private static void fault(String told, int number, int at) {
        DOC.dueFault(told, number + "@" + at);
    }

    // ---- feed

    private static void oneToEightBytes() {
        String[] want = {"4", "54", "54", "6 54", "76 54", "76 54", "8 76 54", "98 76 54"};
        for (int n = 1; n <= 8; n++) {
            CrossedSheets x = new CrossedSheets();
            DOC.due("feed(" + n + ")", x.feed(n, Check.pack("98 76 54")), n);
            x.sheet();
            DOC.due("the lowest " + n + " of '98 76 54'", Check.printed(x), want[n - 1]);
        }
        CrossedSheets x = new CrossedSheets();
        DOC.dueForAll("feed", n -> x.feed((int) n, '1'), OUTSIDE, 0, 9, -1, 256, LOWEST, HIGHEST);
        DOC.due("bytes told", x.count(2), 0);
        x.feed(8, Check.pack((char) 255 + "1 2 3 4"));
        x.sheet();
        DOC.due("the highest bit of a long", x.fault(), 0);
        x.feed(8, Check.pack("1 2 3 4" + (char) 129));
        x.sheet();
        DOC.due("the highest bit of the lowest byte", x.fault(), 7);
        x.feed(1, -1L << 8 | '5');
        DOC.due("what is above the lowest byte is not told", x.sheet(), 0);
        DOC.due("what is above the lowest byte is not told", Check.printed(x), "5");
    }

    private static void bytesComeBehind() {
        CrossedSheets x = new CrossedSheets();
        DOC.due("1 byte", x.feed(1, '{'), 1);
        DOC.due("2 bytes more", x.feed(2, Check.pack("0:")), 3);
        DOC.due("8 bytes more", x.feed(8, Check.pack("1 2 3 4 ")), 11);
        DOC.due("1 byte more", x.feed(1, '}'), 12);
        DOC.due("count(2)", x.count(2), 12);
        DOC.due("sheet()", x.sheet(), 1);
        DOC.due("print", Check.printed(x), "{0:1 2 3 4}");
        DOC.due("a new text", x.feed(1, '5'), 1);
    }

    private static CrossedSheets withBlanks(int bytes) {
        CrossedSheets x = new CrossedSheets();
        Check.feed(x, repeated(" ", bytes));
        return x;
    }

    private static void fourHundredBytes() {
        for (int n = 1; n <= 8; n++) {
            DOC.due("up to 400 with " + n, withBlanks(400 - n).feed(n, '1'), 400);
            CrossedSheets x = withBlanks(401 - n);
            DOC.due("401 with " + n, x.feed(n, '1'), FULL);
            DOC.due("as many as there were", x.count(2), 401 - n);
            DOC.due("no byte of them came in", x.sheet(), 0);
            DOC.due("no byte of them came in", x.count(1), 0);
        }
        CrossedSheets x = withBlanks(400);
        DOC.dueForAll("feed to 400 bytes", n -> x.feed((int) n, '1'), FULL, 1, 2, 7, 8);
        DOC.dueForAll("feed to 400 bytes", n -> x.feed((int) n, '1'), OUTSIDE, 0, 9, -1);
        x.sheet();
        DOC.due("room again", x.feed(8, 0), 8);
    }

    private static void longestText() {
        CrossedSheets x = Check.on("{0:" + repeated(" ", 395) + "1}");
        DOC.due("a text of 400 bytes", Check.printed(x), "{0:1}");
        fault(repeated(" ", 399) + "x", 1, 399);
        fault("{0:1" + repeated(" ", 396), 1, 400);
        fault("{1:1}" + repeated(" ", 395), 7, 400);
        right(repeated(" ", 400));
        DOC.due("400 figures", Check.fault(new CrossedSheets(), repeated("0", 400)), "2@0");
        StringBuilder most = new StringBuilder();
        for (int m = 0; m < 10; m++) {
            most.append("<").append(m).append(":99 99 99 99>*").append(m).append(' ');
        }
        DOC.due("most of all", Check.printed(Check.on(most.toString())), most.toString().replace(" <", "<").trim());
    }

    private static void leastAndGreatestWord() {
        CrossedSheets x = Check.on("0 99(0/0 99)");
        DOC.due("text", Check.text(x, 0) + "," + Check.text(x, 1), "0 99 0,0 99 99");
        fault("100", 2, 0);
        fault("(100/0 1)", 2, 1);
        fault("(1/0 100)", 2, 5);
        fault("-1", 1, 0);
    }

    // ---- what can stand where

    /** Behind the text so far just these signs can stand, of all bytes; and where the text may not end, it has a fault. */
    private static void signs(String soFar, String can, boolean mayEnd) {
        StringBuilder found = new StringBuilder();
        StringBuilder want = new StringBuilder();
        for (int sign = 0; sign < 256; sign++) {
            String fault = Check.fault(new CrossedSheets(), soFar + (char) sign);
            found.append(fault.equals("1@" + soFar.length()) ? "" : String.valueOf((char) sign));
            want.append(can.indexOf(sign) < 0 ? "" : String.valueOf((char) sign));
        }
        DOC.due("what can stand behind '" + soFar + "'", found.toString(), want.toString());
        String end = Check.fault(new CrossedSheets(), soFar);
        DOC.due("'" + soFar + "' may end", end.equals("1@" + soFar.length()) ? 0 : 1, mayEnd ? 1 : 0);
    }

    private static void anyNumberOfItems() {
        CrossedSheets x = Check.on("");
        DOC.due("no item", x.count(1), 0);
        right("   ");
        right("1");
        right("1{0:1}[1:1]<2:1>*2(1/3 1)1");
        signs("", ITEMS, true);
        signs("1 ", ITEMS, true);
        signs("{0:1}", ITEMS, true);
        signs("*0 ", ITEMS, true);
        signs("(1/0 2)", ITEMS, true);
    }

    private static void signsOfPutIn() {
        right("{0:1}");
        right("{0:1 2[1:3]{2:4}(5/3 6)*4<4:7>}");
        signs("{", FIGURES, false);
        signs("{0 ", " :", false);
        signs("{0:", ITEMS, false);
        signs("{0:1 ", ITEMS + "}", false);
        signs("{0:[1:1]", ITEMS + "}", false);
        signs("{0:(1/1 2)", ITEMS + "}", false);
        signs("{0:*1 ", ITEMS + "}", false);
        fault("{0:}", 1, 3);
        fault("{0: }", 1, 4);
    }

    private static void signsOfStruckOut() {
        right("[0:1]");
        right("[0!1:1]");
        right("[0:1 2[1:3]{2:4}(5/3 6)*4<4:7>]");
        signs("[", FIGURES, false);
        signs("[0 ", " :!", false);
        signs("[0!", FIGURES, false);
        signs("[0!1 ", " :", false);
        signs("[0:", ITEMS, false);
        signs("[0!1:", ITEMS, false);
        signs("[0:1 ", ITEMS + "]", false);
        signs("[0!1:1 ", ITEMS + "]", false);
        signs("[0:{1:1}", ITEMS + "]", false);
        fault("[0:]", 1, 3);
        fault("[0!1:]", 1, 5);
    }

    private static void signsOfMoved() {
        right("<0:1>*0");
        right("<0:1 2[1:3]{2:4}(5/3 6)<4:7>>*0*4");
        signs("<", FIGURES, false);
        signs("<0 ", " :", false);
        signs("<0:", ITEMS_MOVED, false);
        signs("<0:1 ", ITEMS_MOVED + ">", false);
        signs("<0:{1:1 ", ITEMS_MOVED + "}", false);
        signs("<0:[1:1 ", ITEMS_MOVED + "]", false);
        signs("<0:<1:1 ", ITEMS_MOVED + ">", false);
        signs("<0:<1:1>", ITEMS_MOVED + ">", false);
        signs("<0:1>", ITEMS, true);
        signs("*", FIGURES, false);
        fault("<0:>*0", 1, 3);
    }

    private static void signsOfWrittenOver() {
        right("(1/0 2)");
        right("(1/0 2/1 3/2 4/3 5/4 6/5 7/6 8/7 9/8 10/9 11)");
        signs("(", FIGURES, false);
        signs("(1 ", " /", false);
        signs("(1/", FIGURES, false);
        signs("(1/0 ", FIGURES, false);
        signs("(1/0 2 ", " /)", false);
        signs("(1/0 2/", FIGURES, false);
        signs("(1/0 2/1 ", FIGURES, false);
        signs("(1/0 2/1 3 ", " /)", false);
        fault("()", 1, 1);
        fault("(1)", 1, 2);
        fault("(1/)", 1, 3);
        fault("(1/0)", 1, 4);
    }

    // ---- numbers, marks, words

    private static void eachMarkOnce() {
        String[] ahead = {"{0:1}", "[0:1]", "[1!0:1]", "<0:1>*0", "(1/0 2)"};
        String[] behind = {"{", "[", "[2!", "<", "(1/", "(1/2 3/"};
        for (String first : ahead) {
            for (String second : behind) {
                fault(first + second + "0", 3, first.length() + second.length());
                fault(first + second + " 00", 3, first.length() + second.length() + 1);
            }
        }
        right("<0:1>*0");
        right("*0<0:1>");
        fault("{0:{0:1}}", 3, 4);
        fault("[0!0:1]", 3, 3);
        fault("(1/0 2/0 3)", 3, 7);
        right("{0:1}{1:1}{2:1}{3:1}{4:1}{5:1}{6:1}{7:1}{8:1}{9:1}");
        fault("{10:1}", 2, 1);
    }

    private static void asManyAsTheGreatestAndOne() {
        StringBuilder told = new StringBuilder("1");
        for (int marks = 0; marks <= 10; marks++) {
            CrossedSheets x = new CrossedSheets();
            Check.feed(x, told.toString());
            DOC.due("sheet() with " + marks, x.sheet(), marks);
            DOC.due("count(0) with " + marks, x.count(0), marks);
            told.append("[").append(marks).append(":1]");
        }
        DOC.due("the greatest told first", Check.on("{2:1}{0:1}{1:1}").count(0), 3);
        DOC.due("a '!' and a '/' count", Check.on("[1!2:1](1/0 2)").count(0), 3);
    }

    private static void oneOrTwoFigures() {
        DOC.due("one figure and two", Check.printed(Check.on("0 00 9 09 10 99")), "0 0 9 9 10 99");
        DOC.due("a mark of two figures", Check.printed(Check.on("{00:1}[01!02:1]<03:1>*03(1/04 2)")),
            "{0:1}[1!2:1]<3:1>*3(1/4 2)");
        fault("000", 2, 0);
        fault("1 001", 2, 2);
        fault("{000:1}", 2, 1);
        fault("*000", 2, 1);
    }

    private static void blanks() {
        String told = "  1  {  0  :  2  }  [  1  !  2  :  3  ]  <  3  :  4  >  *  3  (  5  /  4  6  /  5  7  )  ";
        DOC.due("blanks everywhere", Check.printed(Check.on(told)), "1{0:2}[1!2:3]<3:4>*3(5/4 6/5 7)");
        DOC.due("a blank makes two numbers", Check.on("1 2").count(1), 2);
        fault("{1 0:1}", 1, 3);
        for (int other : new int[] {0, 9, 10, 13, 31, 33, 160, 255}) {
            fault("1" + (char) other + "2", 1, 1);
        }
    }

    private static void numbersSideBySide() {
        DOC.due("12 is one", Check.on("12").count(1), 1);
        DOC.due("1 2 are two", Check.on("1 2").count(1), 2);
        right("(1/0 2)");
        fault("(1/02)", 1, 5);
        right("<0:1>*0 5");
        fault("<0:1>*05", 6, 0);
        right("1{0:2}3");
    }

    /** So many words, each with a blank behind it. */
    private static String words(int number) {
        StringBuilder s = new StringBuilder();
        for (int k = 0; k < number; k++) {
            s.append(10 + k).append(' ');
        }
        return s.toString();
    }

    private static void fortyWords() {
        CrossedSheets x = Check.on(words(40));
        DOC.due("40 words", x.count(1), 40);
        DOC.due("40 words", x.text(0, NONE), 40);
        fault(words(41), 4, 120);
        CrossedSheets y = Check.on(words(37) + "(1/0 2/1 3)");
        DOC.due("each of a '(' is one", y.count(1), 40);
        DOC.due("one of them stands", y.text(0, NONE), 38);
        fault(words(38) + "(1/0 2/1 3)", 4, 114 + 9);
        DOC.due("in brackets", Check.on("{0:" + words(20) + "}[1:" + words(20) + "]").count(1), 40);
        DOC.due("no word", Check.on("").count(1), 0);
    }

    // ---- faults

    private static void theFirstFault() {
        fault("1}2]3)", 1, 1);
        fault("100 }", 2, 0);
        fault("} 100", 1, 0);
        fault("{10:1}{10:1}", 2, 1);
        fault("{0:1}{0:2}}", 3, 6);
        fault("{0:1}}{0:2}", 1, 5);
        fault(words(40) + "1 }", 4, 120);
        fault(words(40) + "} 1", 1, 120);
        fault("{0:{1:{2:{3:{4:{5:{6:{7:{8:1}}}}}}}}}}", 5, 24);
        fault("{0:{1:{2:{3:{4:{5:{6:{7:}{8:1}}}}}}}}}", 1, 24);
    }

    private static void faultAtTheEnd() {
        fault("{", 1, 1);
        fault("{   ", 1, 4);
        fault("{0:1", 1, 4);
        fault("{0:1  ", 1, 6);
        fault("[0!", 1, 3);
        fault("<0:1", 1, 4);
        fault("*", 1, 1);
        fault("(1/0 2", 1, 6);
        fault("{0:(1/1 2)", 1, 10);
        fault("{1:1} ", 7, 6);
    }

    private static void theLeastFault() {
        fault("{0 123:1}", 1, 3);
        fault("{0:1}{000:1}", 2, 6);
        fault(words(40) + "123", 2, 120);
        fault(words(40) + "(1 2", 4, 121);
        fault(words(40) + "{0 1", 1, 123);
        fault("{0:{1:{2:{3:{4:{5:{6:{7{", 1, 23);
        fault("{0:{1:{2:{3:{4:{5:{6:<7:*", 1, 24);
    }

    private static void starWithinArrow() {
        fault("<0:*0>", 1, 3);
        fault("<0:1*0>", 1, 4);
        fault("<0:1 *1 >", 1, 5);
        fault("<0:{1:*0}>", 1, 6);
        fault("<0:[1:1*0]>", 1, 7);
        fault("<0:<1:1>*1>*0", 1, 8);
        fault("<0:{1:[2:1]*0}>", 1, 11);
        right("<0:1>*0");
        right("{1:<0:1>*0}");
        right("<0:<1:1>>*1*0");
        right("{0:{1:{2:{3:{4:{5:{6:<7:1>*7}}}}}}}");
    }

    private static void threeFigures() {
        right("99");
        for (String number : new String[] {"100", "000", "001", "999", "0000", "12345678901"}) {
            fault(number, 2, 0);
            fault("1 " + number, 2, 2);
            fault("{" + number, 2, 1);
            fault("[0!" + number, 2, 3);
            fault("*" + number, 2, 1);
            fault("(" + number, 2, 1);
            fault("(1/" + number, 2, 3);
            fault("(1/0 " + number, 2, 5);
        }
    }

    private static void markAboveNine() {
        String nine = "(1/0 1/1 1/2 1/3 1/4 1/5 1/6 1/7 1/8 1)";
        right(nine + "{9:1}");
        right(nine + "{09:1}");
        fault(nine + "{10:1}", 2, nine.length() + 1);
        fault("{ 10:1}", 2, 2);
        fault("[10:1]", 2, 1);
        fault("[0! 10:1]", 2, 4);
        fault("<99:1>", 2, 1);
        fault("* 10", 2, 2);
        fault("(1/ 10 1)", 2, 4);
        right("*9<9:1>" + nine);
    }

    private static void toldAlready() {
        fault("{0:1}{ 0:1}", 3, 7);
        fault("{0:1}{00:1}", 3, 6);
        fault("<0:1>*0*0", 3, 8);
        fault("<0:1>*0* 00", 3, 9);
        fault("*0*0", 3, 3);
        fault("*0 1 *0 <0:1>", 3, 6);
        right("*0*1<0:1><1:1>");
    }

    private static void the41stWord() {
        right(words(40));
        fault(words(40) + "1", 4, 120);
        fault(words(40) + "  1", 4, 122);
        fault(words(40) + "99", 4, 120);
        fault(words(40) + "(1/0 2)", 4, 121);
        fault(words(39) + "(1/0 2)", 4, 117 + 5);
        right(words(38) + "(1/0 2)");
        fault(words(38) + "(1/0 2)3", 4, 114 + 7);
        fault(words(40) + "{0:1}", 4, 123);
        right("<0:" + words(40) + ">{1:*0}");
    }

    private static void nineDeep() {
        String[][] brackets = {{"{", "}"}, {"[", "]"}, {"<", ">"}};
        for (String[] outer : brackets) {
            for (String[] ninth : brackets) {
                StringBuilder told = new StringBuilder();
                for (int m = 0; m < 8; m++) {
                    told.append(outer[0]).append(m).append(':');
                }
                StringBuilder closed = new StringBuilder(told).append("1(2/8 3/9 4)").append(repeated(outer[1], 8));
                for (int m = 0; m < 8 && outer[0].equals("<"); m++) {
                    closed.append('*').append(m);
                }
                right(closed.toString());
                fault(told + ninth[0] + "8:1", 5, 24);
                fault(told + "1  " + ninth[0], 5, 27);
            }
        }
        right("{0:{1:{2:{3:{4:{5:{6:{7:1}{8:1}}}}}}}}{9:1}");
        fault("{0:{1:{2:{3:{4:{5:{6:{7:1}{8:{9:1}}}}}}}}}", 5, 29);
    }

    private static void loneArrowBehindOtherFaults() {
        fault("*0 }", 1, 3);
        fault("<0:1> 100", 2, 6);
        fault("*0 {1:1}{1:1}", 3, 9);
        fault("*0 " + words(41), 4, 123);
        fault("*9{0:{1:{2:{3:{4:{5:{6:{7:{8:1}}}}}}}}}", 5, 26);
        fault("*0{", 1, 3);
    }

    private static void loneArrow() {
        fault("*0", 6, 0);
        fault("<0:1>", 6, 0);
        fault("{0:1}*0", 6, 5);
        fault("[0:1]*0", 6, 5);
        fault("[0!1:1]*1", 6, 7);
        fault("(1/0 2)*0", 6, 7);
        fault("*0{0:1}", 6, 0);
        fault("{0:1<1:2>}", 6, 4);
        right("<0:1>*0");
        right("{0:1<1:2>*1}");
    }

    private static void firstLoneArrow() {
        fault("<0:1>*1", 6, 0);
        fault("*1<0:1>", 6, 0);
        fault("*1<1:1>*2<0:1>", 6, 7);
        fault("*1<1:1><0:1>*2", 6, 7);
        fault(" <2:1> * 5 <1:1>", 6, 1);
        fault("  *  5", 6, 2);
        fault("<0:1<1:2>>*0", 6, 4);
        fault("<0:1<1:2>>*1", 6, 0);
    }

    private static void markNotTold() {
        fault("{1:1}", 7, 5);
        fault("{1:1}  ", 7, 7);
        fault("{9:1}", 7, 5);
        fault("{0:1}{2:1}", 7, 10);
        fault("{1:1}{2:1}", 7, 10);
        fault("[0!2:1]", 7, 7);
        fault("(1/1 2)", 7, 7);
        fault("<1:1>*1", 7, 7);
        fault("{0:1}{1:1}{2:1}{3:1}{4:1}{5:1}{6:1}{7:1}{9:1}", 7, 45);
        fault("<1:1>", 6, 0);
        fault("{1:1}*2", 6, 5);
        right("{1:1}{0:1}");
        right("[1!0:1]");
        right("");
    }

    private static void print(String told, String want) {
        CrossedSheets x = Check.on(told);
        DOC.due("print of '" + told + "'", Check.printed(x), want);
        CrossedSheets y = Check.on(Check.printed(x));
        DOC.due("and told again", Check.printed(y), want);
    }

    private static void printed() {
        print("", "");
        print("    ", "");
        print("00", "0");
        print("  01   10  ", "1 10");
        print("{00:01}02", "{0:1}2");
        print("1 {0:2} 3", "1{0:2}3");
        print("[ 0 ! 1 : 2  3 ] ", "[0!1:2 3]");
        print("<0:1>* 00  05", "<0:1>*0 5");
        print("<0:1>*0 *1 <1:2>", "<0:1>*0*1<1:2>");
        print("( 01 / 00  02 / 01  03 )", "(1/0 2/1 3)");
        print("(1/0 2) (3/1 4) 5", "(1/0 2)(3/1 4)5");
    }

    // ---- sheet, fault, print

    private static void nothingIsToldThen() {
        CrossedSheets x = new CrossedSheets();
        Check.feed(x, "1{0:2}");
        x.sheet();
        DOC.due("bytes told", x.count(2), 0);
        Check.feed(x, "1{0:");
        x.sheet();
        DOC.due("bytes told behind a fault", x.count(2), 0);
        DOC.due("nothing of it is left", Check.fault(x, "2}"), "1@1");
        DOC.due("a new text", Check.fault(x, "3"), RIGHT);
        DOC.due("is the sheet", Check.printed(x), "3");
    }

    /** A sheet told behind two others answers as it does on a new object. */
    private static void nothingOfEarlierSheets() {
        String[] sheets = {"{0:1[1!2:2 3]}<3:4>*3(5/4 6/5 7)8 9", "1", "", "[0:1]{1:2}(3/2 4)", "{0:1{1:2{2:3}}}*3<3:4>",
            "}", "(1/0 2)(3/1 4)", "2 3", "[1!0:5]", "{0:1}{1:*2}<2:6>", "(1/1 2/0 3)", "1(2/0 3)", "{1:1}{0:2}"};
        for (String first : sheets) {
            for (String second : sheets) {
                CrossedSheets x = new CrossedSheets();
                Check.fault(x, first);
                Check.text(x, 0);
                Check.fault(x, second);
                Check.text(x, 0);
                for (String told : new String[] {"1 2", "[0:1 2]{1:3}(4/2 5)", "(1/1 2){0:3}"}) {
                    likeANewOne(x, told);
                }
            }
        }
    }

    private static void likeANewOne(CrossedSheets x, String told) {
        CrossedSheets y = Check.on(told);
        DOC.due("the fault of '" + told + "'", Check.fault(x, told), RIGHT);
        DOC.due("print of '" + told + "'", Check.printed(x), Check.printed(y));
        for (int what = 0; what < 6; what++) {
            DOC.due("marks of '" + told + "'", Check.marks(x, what), Check.marks(y, what));
        }
        DOC.due("words of '" + told + "'", x.count(1), y.count(1));
        DOC.due("good sets of '" + told + "'", x.good(NONE), y.good(NONE));
        DOC.due("views of '" + told + "'", x.view(NONE), y.view(NONE));
        int full = (1 << y.count(0)) - 1;
        DOC.due("first text of '" + told + "'", Check.text(x, 0), Check.text(y, 0));
        DOC.due("last text of '" + told + "'", Check.text(x, full), Check.text(y, full));
    }

    private static void copiesAndBarredStay() {
        CrossedSheets x = Check.on("1 2");
        x.see(0);
        x.copy();
        x.bar(1, 2, true);
        for (String told : new String[] {"{0:1}2", "", "}"}) {
            Check.feed(x, told);
            x.sheet();
            DOC.due("copies", x.count(4), 1);
            DOC.due("barred pairs", x.count(5), 1);
            DOC.due("the pair", x.bar(1, 2, true), 1);
        }
        Check.feed(x, "1{0:2}");
        x.sheet();
        DOC.due("the copy's words", x.times(0, 0), 1);
        DOC.due("how many it had", x.drop(), 2);
    }

    private static void anEmptySheetAgain() {
        CrossedSheets x = Check.on("1{0:2}[1!2:3]");
        DOC.due("nothing told", x.sheet(), 0);
        DOC.due("marks", x.count(0), 0);
        DOC.due("words", x.count(1), 0);
        DOC.due("print", x.print(NONE), 0);
        DOC.due("good sets", x.good(NONE), 1);
        DOC.due("text", x.text(0, NONE), 0);
        DOC.due("orders", x.orders(), 1);
        DOC.due("views", x.view(NONE), 1);
    }

    private static void numbersOfFaults() {
        String[] told = {"}", "100", "{0:1}{0:1}", words(41), "[0:[1:[2:[3:[4:[5:[6:[7:[", "*0", "{1:1}"};
        for (int number = 1; number <= 7; number++) {
            CrossedSheets x = new CrossedSheets();
            Check.feed(x, told[number - 1]);
            DOC.due("sheet() of '" + told[number - 1] + "'", x.sheet(), -10 - number);
        }
    }

    /** The object with one faulty sheet more has the same place of the fault, so that it must be like the other one. */
    private static void faultyChangesNothing() {
        List<String> faulty = new ArrayList<>(List.of("}", "100", "{0:1}{0:1}", words(41), "*0", "{1:1}", "(1/0 2/1 3",
            "{0:1{1:2{2:3{3:4", "[0!1:[2!3:[4!5:7 8 9]]]<6:1>*6*7"));
        faulty.add("[0:[1:[2:[3:[4:[5:[6:[7:[");
        for (String told : faulty) {
            String answer = Check.fault(new CrossedSheets(), told);
            int number = Integer.parseInt(answer.substring(0, answer.indexOf('@')));
            Twins.refuse(DOC, "sheet() of '" + told + "' once more", x -> {
                Check.feed(x, "1{0:2[1!2:3]}<3:4>5*3(6/4 7)");
                x.sheet();
                x.ink(0, 1);
                x.ink(3, 2);
                x.earlier(1, 2, true);
                x.see(0);
                x.copy();
                x.see(31);
                x.copy();
                x.write(9);
                x.bar(1, 2, true);
                Check.feed(x, told);
                x.sheet();
            }, x -> {
                Check.feed(x, told);
                return x.sheet();
            }, -10 - number);
        }
        CrossedSheets x = Check.on("1{0:2[1!2:3]}");
        x.ink(0, 3);
        x.earlier(3, 0, true);
        Check.feed(x, "{0:9}{1:9}{2:9}{3:9}}");
        DOC.due("sheet()", x.sheet(), -11);
        DOC.due("print", Check.printed(x), "1{0:2[1!2:3]}");
        DOC.due("marks", x.count(0), 3);
        DOC.due("words", x.count(1), 3);
        DOC.due("ink", x.mark(0, 1), 3);
        DOC.due("must", x.mark(2, 2), 3);
        DOC.due("earlier", x.earlier(3, 0, true), 1);
        DOC.due("text", Check.text(x, 1), "1 2 3");
    }

    private static void placeOfTheFault() {
        CrossedSheets x = new CrossedSheets();
        DOC.due("fault() of a new object", x.fault(), NONE);
        DOC.due("at the first byte", Check.fault(x, "}"), "1@0");
        x.feed(8, Check.pack("1 2 3 4 "));
        x.write(1);
        x.ink(0, 0);
        DOC.due("until the next sheet()", x.fault(), 0);
        x.sheet();
        DOC.due("none of a right one", x.fault(), NONE);
        DOC.due("at the last byte", Check.fault(x, "1 2}"), "1@3");
        DOC.due("another one", Check.fault(x, "1 }"), "1@2");
        DOC.due("at the end", Check.fault(x, "{0:1" + repeated(" ", 396)), "1@400");
        x.sheet();
        DOC.due("none of an empty one", x.fault(), NONE);
    }

    private static void printedBytes() {
        CrossedSheets x = Check.on(" 1  02 ");
        DOC.due("print(-1)", x.print(NONE), 3);
        DOC.due("the first", x.print(0), '1');
        DOC.due("print(1)", x.print(1), ' ');
        DOC.due("the last", x.print(2), '2');
        DOC.due("of an empty sheet", Check.on("").print(NONE), 0);
        DOC.due("of a new object", new CrossedSheets().print(NONE), 0);
    }

    private static void printedNotSoMany() {
        CrossedSheets x = Check.on("1 2");
        DOC.dueForAll("print", i -> x.print((int) i), NONE, 3, 4, 400, 401, HIGHEST, -2, -3, LOWEST);
        CrossedSheets empty = Check.on("");
        DOC.dueForAll("print of an empty sheet", i -> empty.print((int) i), NONE, 0, 1, 399, 400, HIGHEST, -2, LOWEST);
        CrossedSheets less = Check.on("1 2 3 4 5");
        Check.feed(less, "1");
        less.sheet();
        DOC.dueForAll("print behind a longer sheet", i -> less.print((int) i), NONE, 1, 2, 8);
    }
}
