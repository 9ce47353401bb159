/** Promises 17 to 22 with the sentences of sections 2 and 4 of 'Terms' on texts, views, words, idle marks and apart. */
final class EdgesOfTextsTest {
    private static final int NONE = CrossedSheets.NONE;
    private static final int UNKNOWN = CrossedSheets.UNKNOWN;
    private static final int OUTSIDE = CrossedSheets.OUTSIDE;
    private static final int NOT = CrossedSheets.NOT;
    private static final int LOWEST = Integer.MIN_VALUE;
    private static final int HIGHEST = Integer.MAX_VALUE;
    private static final String TEN = "{0:0}{1:1}{2:2}{3:3}{4:4}{5:5}{6:6}{7:7}{8:8}{9:9}";
    private static final String ROW = "(0/0 1/1 2/2 3/3 4/4 5/5 6/6 7/7 8/8 9/9 10)";
    private static final Sentences DOC = new Sentences("EdgesOfTexts");

    public static void main(String[] args) {
        DOC.says("Terms 2", "what was put in by M stands only if M is in the SET", EdgesOfTextsTest::putIn);
        DOC.says("Terms 2", "does not stand if M is in it and the M behind its '!' is not (or there is none)",
            EdgesOfTextsTest::struckOut);
        DOC.says("Terms 2", "what M moves stands at its '*' if M is in it, else where it is told",
            EdgesOfTextsTest::moved);
        DOC.says("Terms 2", "whose MARK is the last of its row that is in it, the first one if none is",
            EdgesOfTextsTest::writtenOver);
        DOC.says("Promise 17", "WORD i of the TEXT of a SET; i = NONE: how many it has",
            EdgesOfTextsTest::emptyAndFullTexts);
        DOC.says("Promise 17", "NONE: not so many (i below NONE, too)", EdgesOfTextsTest::textNotSoMany);
        DOC.says("Promise 17", "UNKNOWN (bits), NOT: it is not GOOD", EdgesOfTextsTest::textRefused);
        DOC.says("Terms 2", "all unlike TEXTS of GOOD SETS, in the order of the least SET of each",
            EdgesOfTextsTest::unlikeTexts);
        DOC.says("Promise 18", "VIEWS: i = NONE how many, else the least SET of the i-th",
            EdgesOfTextsTest::fewestAndMostViews);
        DOC.says("Promise 18", "NONE (i below NONE, too)", EdgesOfTextsTest::viewNotSoMany);
        DOC.says("Terms 4", "A WORD STANDS in a SET, if it is in its TEXT", EdgesOfTextsTest::standsOnceOrMore);
        DOC.says("Promise 19", "what = 0 whether it STANDS at first (1, 0), 1 in the end",
            EdgesOfTextsTest::atFirstAndInTheEnd);
        DOC.says("Promise 19", "2 the fewest MARKS of a GOOD SET in which it STANDS (NONE), 3 the most (NONE), "
            + "4 in how many GOOD SETS", EdgesOfTextsTest::fewestAndMostMarks);
        DOC.says("Promise 19", "OUTSIDE", EdgesOfTextsTest::wordOutside);
        DOC.says("Terms 4", "IDLE is a MARK by which, whatever GOOD SET without it it may come behind, TEXT stays alike",
            EdgesOfTextsTest::whateverGoodSet);
        DOC.says("Promise 20", "IDLE MARKS: the SET", EdgesOfTextsTest::noneAndAllAreIdle);
        DOC.says("Terms 4", "the least number of WORDS put in, left out, changed",
            EdgesOfTextsTest::leastNumberOfChanges);
        DOC.says("Promise 21", "APART two TEXTS of SETS", EdgesOfTextsTest::nearestAndFarthest);
        DOC.says("Promise 21", "UNKNOWN (bits), NOT: one is not GOOD", EdgesOfTextsTest::apartRefused);
        DOC.says("Terms 4", "TEXT of all MARKS but it and all that must be behind it", EdgesOfTextsTest::withoutOne);
        DOC.says("Promise 22", "WORD i of THE SHEET WITHOUT a MARK; i = NONE: how many",
            EdgesOfTextsTest::withoutTheOnlyOne);
        DOC.says("Promise 22", "NONE: not so many (i below NONE, too)", EdgesOfTextsTest::withoutNotSoMany);
        DOC.says("Promise 22", "UNKNOWN", EdgesOfTextsTest::withoutUnknown);
        DOC.end();
    }

    /** Sets and the texts that are due, by turns. */
    private static void texts(String told, Object... want) {
        CrossedSheets x = Check.on(told);
        for (int k = 0; k < want.length; k += 2) {
            int set = (Integer) want[k];
            DOC.due("text(" + set + ") of " + told, Check.text(x, set), (String) want[k + 1]);
        }
    }

    private static void putIn() {
        texts("{0:1}", 0, "", 1, "1");
        texts("1{0:2{1:3}4}5", 0, "1 5", 1, "1 2 4 5", 3, "1 2 3 4 5");
        texts("{0:[1:1]}", 0, "", 1, "1", 3, "");
        texts("{0:(1/1 2)}", 0, "", 1, "1", 3, "2");
        texts("{0:1}{9:2}(3/1 4/2 5/3 6/4 7/5 8/6 9/7 10/8 11)", 0, "3", 1, "1 3", 512, "2 3", 1023, "1 2 11");
    }

    private static void struckOut() {
        texts("[0:1]", 0, "1", 1, "");
        texts("[0!1:1]", 0, "1", 1, "", 3, "1");
        texts("[1!0:1]", 0, "1", 2, "", 3, "1");
        texts("[0:1][1!2:3]", 0, "1 3", 1, "3", 2, "1", 6, "1 3", 7, "3");
        texts("[0!1:1[2:2]3]", 4, "1 3", 5, "", 7, "1 3", 3, "1 2 3");
        texts("[0:1[1!2:2]3]", 2, "1 3", 6, "1 2 3", 7, "");
    }

    private static void moved() {
        texts("<0:1>2*0", 0, "1 2", 1, "2 1");
        texts("*0 2<0:1>", 0, "2 1", 1, "1 2");
        texts("<0:1>*0", 0, "1", 1, "1");
        texts("<0:1 2>3*0 4", 0, "1 2 3 4", 1, "3 1 2 4");
        texts("<0:1[1:2]>3*0", 2, "1 3", 3, "3 1");
        texts("<0:<1:1>2>3*0 4*1", 0, "1 2 3 4", 1, "3 1 2 4", 2, "2 3 4 1", 3, "3 2 4 1");
        texts("{0:*1}2<1:3>", 0, "2 3", 1, "2 3", 3, "3 2");
    }

    private static void writtenOver() {
        texts("(1/0 2)", 0, "1", 1, "2");
        texts("(1/0 2/1 3)", 0, "1", 1, "2", 3, "3");
        texts("(1/1 2/0 3)", 0, "1", 2, "2", 3, "3");
        texts("0(1/0 2)(3/1 4)5", 0, "0 1 3 5", 1, "0 2 3 5", 2, "0 1 4 5", 3, "0 2 4 5");
        CrossedSheets row = Check.on(ROW);
        for (int k = 0; k <= 10; k++) {
            DOC.due("the last of " + k, row.text((1 << k) - 1, 0), k);
            DOC.due("one word", row.text((1 << k) - 1, NONE), 1);
        }
    }

    /** Forty words, with 39 at the place 39. */
    private static String forty() {
        StringBuilder s = new StringBuilder();
        for (int k = 0; k < 40; k++) {
            s.append(k).append(' ');
        }
        return s.toString();
    }

    private static void emptyAndFullTexts() {
        DOC.due("of a new object", new CrossedSheets().text(0, NONE), 0);
        DOC.due("of an empty sheet", Check.on(" ").text(0, NONE), 0);
        CrossedSheets x = Check.on("[0:" + forty() + "]");
        DOC.due("all words", x.text(0, NONE), 40);
        for (int i = 0; i < 40; i++) {
            DOC.due("word " + i, x.text(0, i), i);
        }
        DOC.due("none", x.text(1, NONE), 0);
    }

    private static void textNotSoMany() {
        CrossedSheets x = Check.on("[0:" + forty() + "]");
        DOC.due("the last", x.text(0, 39), 39);
        DOC.dueForAll("of 40 words", i -> x.text(0, (int) i), NONE, 40, 41, 63, 64, HIGHEST, -2, -3, LOWEST);
        DOC.dueForAll("of none", i -> x.text(1, (int) i), NONE, 0, 1, 39, 40, HIGHEST, -2, LOWEST);
        CrossedSheets empty = Check.on("");
        DOC.dueForAll("of an empty sheet", i -> empty.text(0, (int) i), NONE, 0, 1, HIGHEST, -2, LOWEST);
        CrossedSheets less = Check.on("1 2 3");
        less.text(0, 2);
        Check.feed(less, "4");
        less.sheet();
        DOC.dueForAll("behind a longer sheet", i -> less.text(0, (int) i), NONE, 1, 2, 3);
    }

    private static void textRefused() {
        CrossedSheets x = Check.on("{0:1{1:2}}");
        DOC.due("the greatest", x.text(3, NONE), 2);
        for (int i : new int[] {NONE, 0, 99, -2}) {
            DOC.dueForAll("text(.., " + i + ")", set -> x.text((int) set, i), UNKNOWN, 4, 5, 6, 1024, HIGHEST, -1, LOWEST);
            DOC.due("text(2, " + i + ")", x.text(2, i), NOT);
        }
        CrossedSheets ten = Check.on(TEN);
        DOC.due("all of ten", ten.text(1023, NONE), 10);
        DOC.due("a bit more", ten.text(1024, NONE), UNKNOWN);
        CrossedSheets none = Check.on("1");
        DOC.due("without marks", none.text(1, NONE), UNKNOWN);
        CrossedSheets y = Check.on("{0:1}{1:2}");
        DOC.due("good", y.text(1, 0), 1);
        y.ink(0, 1);
        y.earlier(0, 1, true);
        DOC.due("not now", y.text(1, 0), NOT);
        y.ink(0, 0);
        DOC.due("good again", y.text(1, 0), 1);
    }

    // ---- views

    private static void views(CrossedSheets x, int... want) {
        DOC.due("how many of " + Check.printed(x), x.view(NONE), want.length);
        for (int i = 0; i < want.length; i++) {
            DOC.due("view(" + i + ") of " + Check.printed(x), x.view(i), want[i]);
        }
        DOC.due("one more of " + Check.printed(x), x.view(want.length), NONE);
    }

    private static void unlikeTexts() {
        views(Check.on("(1/0 1)"), 0);
        views(Check.on("[0!1:1]"), 0, 1);
        views(Check.on("[1!0:1]"), 0, 2);
        views(Check.on("{0:1}{1:1}"), 0, 1, 3);
        views(Check.on("{1:1 1}{0:1}"), 0, 1, 2, 3);
        views(Check.on("{0:0}{1:0 0}{2:0}"), 0, 1, 2, 3, 7);
        CrossedSheets x = Check.on("{0:1}{1:1}{2:2}");
        views(x, 0, 1, 3, 4, 5, 7);
        x.ink(1, 1);
        x.earlier(1, 0, true);
        views(x, 0, 2, 3, 6, 7);
    }

    private static void fewestAndMostViews() {
        views(new CrossedSheets(), 0);
        views(Check.on("1"), 0);
        views(Check.on("<0:1>*0"), 0);
        CrossedSheets ten = Check.on(TEN);
        DOC.due("most", ten.view(NONE), 1024);
        for (int i = 0; i < 1024; i += 93) {
            DOC.due("view(" + i + ")", ten.view(i), i);
        }
        DOC.due("all alike", Check.on("(1/0 1/1 1/2 1/3 1/4 1/5 1/6 1/7 1/8 1/9 1)").view(NONE), 1);
        DOC.due("eleven", Check.on(ROW).view(NONE), 11);
    }

    private static void viewNotSoMany() {
        CrossedSheets ten = Check.on(TEN);
        DOC.due("the last", ten.view(1023), 1023);
        DOC.dueForAll("view of ten", i -> ten.view((int) i), NONE, 1024, 1025, HIGHEST, -2, -3, LOWEST);
        CrossedSheets none = Check.on("");
        DOC.due("the only one", none.view(0), 0);
        DOC.dueForAll("view without marks", i -> none.view((int) i), NONE, 1, 2, 1023, HIGHEST, -2, LOWEST);
        ten.sheet();
        DOC.due("no longer any", ten.view(1), NONE);
    }

    // ---- words

    private static void words(String told, int w, int... want) {
        CrossedSheets x = Check.on(told);
        for (int what = 0; what < want.length; what++) {
            DOC.due("word(" + w + ", " + what + ") of " + told, x.word(w, what), want[what]);
        }
    }

    private static void standsOnceOrMore() {
        words("1 2 3", 1, 1, 1, 0, 0, 1);
        words("1 2 3", 3, 1, 1, 0, 0, 1);
        words("1 1", 1, 1, 1, 0, 0, 1);
        words("{0:1}{1:1}", 1, 0, 1, 1, 2, 3);
        words("[0:1]1", 1, 1, 1, 0, 1, 2);
    }

    private static void atFirstAndInTheEnd() {
        words("{0:1}", 1, 0, 1);
        words("[0:1]", 1, 1, 0);
        words("[0!1:1]", 1, 1, 1);
        words("{0:[1:1]}", 1, 0, 0);
        words("1", 1, 1, 1);
        words("1", 2, 0, 0);
        words("", 0, 0, 0);
    }

    private static void fewestAndMostMarks() {
        words(ROW, 0, 1, 0, 0, 0, 1);
        words(ROW, 5, 0, 0, 5, 5, 1);
        words(ROW, 10, 0, 1, 10, 10, 1);
        words(ROW, 11, 0, 0, NONE, NONE, 0);
        words(TEN, 9, 0, 1, 1, 10, 512);
        words(TEN + "77", 77, 1, 1, 0, 10, 1024);
        words("{0:[1:1]}", 1, 0, 0, 1, 1, 1);
        words("", 0, 0, 0, NONE, NONE, 0);
        CrossedSheets x = Check.on("[0:1]{1:2}");
        x.ink(1, 1);
        x.earlier(1, 0, true);
        DOC.due("the fewest, by inks", x.word(1, 2), 0);
        DOC.due("the most, by inks", x.word(1, 3), 1);
        DOC.due("in how many, by inks", x.word(1, 4), 2);
    }

    private static void wordOutside() {
        CrossedSheets x = Check.on("0 99");
        for (int what = 0; what <= 4; what++) {
            int w = what;
            DOC.due("the least word", x.word(0, what), what == 2 || what == 3 ? 0 : 1);
            DOC.due("the greatest word", x.word(99, what), what == 2 || what == 3 ? 0 : 1);
            DOC.dueForAll("word(.., " + what + ")", v -> x.word((int) v, w), OUTSIDE, -1, 100, 101, LOWEST, HIGHEST);
        }
        DOC.dueForAll("word(0, ..)", what -> x.word(0, (int) what), OUTSIDE, -1, 5, 6, LOWEST, HIGHEST);
        DOC.due("both", x.word(100, 5), OUTSIDE);
    }

    // ---- idle, apart, without

    private static void idle(String told, int want) {
        DOC.due("idle() of " + told, Check.on(told).idle(), want);
    }

    private static void whateverGoodSet() {
        idle("(1/0 1)", 1);
        idle("(1/0 1/1 2)", 1);
        idle("[0:[1:1]]", 0);
        idle("{0:*1}<1:1>", 3);
        idle("<0:1>*0 2", 1);
        idle("<0:1>{1:2}*0", 0);
        idle("<0:1>[1:2]*0", 0);
        CrossedSheets x = Check.on("<0:1>[1:2]*0");
        x.ink(1, 1);
        x.earlier(1, 0, true);
        DOC.due("2 is always gone by then", x.idle(), 1);
        CrossedSheets y = Check.on("[0:[1:1]]");
        y.ink(1, 1);
        y.earlier(0, 1, true);
        DOC.due("1 is always gone by then", y.idle(), 2);
        y.earlier(0, 1, false);
        DOC.due("not always", y.idle(), 0);
    }

    private static void noneAndAllAreIdle() {
        DOC.due("a new object", new CrossedSheets().idle(), 0);
        idle("", 0);
        idle("1 2", 0);
        idle(TEN, 0);
        idle("(1/0 1/1 1/2 1/3 1/4 1/5 1/6 1/7 1/8 1/9 1)", 1023);
        idle("(1/0 1/1 1/2 1/3 1/4 1/5 1/6 1/7 1/8 1/9 2)", 511);
        idle("(1/0 2/1 2/2 2/3 2/4 2/5 2/6 2/7 2/8 2/9 2)", 1022);
    }

    private static void leastNumberOfChanges() {
        DOC.due("put in", Check.on("1{0:2}3").apart(0, 1), 1);
        DOC.due("left out", Check.on("1[0:2]3").apart(0, 1), 1);
        DOC.due("changed", Check.on("1(2/0 9)3").apart(0, 1), 1);
        DOC.due("moved: left out and put in", Check.on("<0:1>2 3 4*0").apart(0, 1), 2);
        DOC.due("two side by side change places", Check.on("<0:1>2*0").apart(0, 1), 2);
        DOC.due("alike", Check.on("<0:1>1*0").apart(0, 1), 0);
        DOC.due("put in and changed", Check.on("{0:1}(2/1 3)").apart(0, 3), 2);
        DOC.due("kitten and sitting", Check.on("(1/0 6)2 3 3(4/1 2)5{2:7}").apart(0, 7), 3);
        DOC.due("the last word put in ahead", Check.on("{0:3}1 2 3").apart(0, 1), 1);
        DOC.due("the last word put in ahead", Check.on("{0:3}1 2 3").apart(1, 0), 1);
        DOC.due("all words put in once more ahead", Check.on("{0:1 2 3}1 2 3").apart(0, 1), 3);
        DOC.due("the first word comes behind all", Check.on("<0:1>2 3 1 2 3*0").apart(0, 1), 2);
        DOC.due("a word that is in both, but not at its place", Check.on("[0:1 2 3 4]5{1:6 7 8 9}").apart(0, 3), 5);
        DOC.due("2 1 against 1 3 2", Check.on("<0:1>{1:3}2*0").apart(1, 2), 3);
        CrossedSheets x = Check.on("[0:1 2 3]{1:4 5}");
        DOC.due("three against two others", x.apart(0, 3), 3);
        DOC.due("and back", x.apart(3, 0), 3);
    }

    private static void nearestAndFarthest() {
        DOC.due("a new object", new CrossedSheets().apart(0, 0), 0);
        CrossedSheets x = Check.on("[0:" + forty() + "]");
        DOC.due("40 words and none", x.apart(0, 1), 40);
        DOC.due("none and 40 words", x.apart(1, 0), 40);
        DOC.due("40 words and the same", x.apart(0, 0), 0);
        DOC.due("none and none", x.apart(1, 1), 0);
        String others = "50 51 52 53 54 55 56 57 58 59 60 61 62 63 64 65 66 67 68 69";
        CrossedSheets y = Check.on("[0:" + forty().substring(0, 50) + "]{1:" + others + "}");
        DOC.due("20 words and 20 others", y.apart(0, 3), 20);
        DOC.due("40 words and the last 20", y.apart(2, 3), 20);
        DOC.due("40 words and the first 20", y.apart(2, 0), 20);
    }

    private static void apartRefused() {
        CrossedSheets x = Check.on("{0:1{1:2}}");
        DOC.due("the greatest", x.apart(3, 3), 0);
        DOC.dueForAll("apart(.., 0)", set -> x.apart((int) set, 0), UNKNOWN, 4, 6, 1024, HIGHEST, -1, LOWEST);
        DOC.dueForAll("apart(0, ..)", set -> x.apart(0, (int) set), UNKNOWN, 4, 6, 1024, HIGHEST, -1, LOWEST);
        DOC.dueForAll("apart(2, ..)", set -> x.apart(2, (int) set), UNKNOWN, 4, 6, -1);
        DOC.due("apart(2, 0)", x.apart(2, 0), NOT);
        DOC.due("apart(0, 2)", x.apart(0, 2), NOT);
        DOC.due("apart(2, 2)", x.apart(2, 2), NOT);
    }

    private static String without(CrossedSheets x, int m) {
        StringBuilder s = new StringBuilder();
        int size = x.without(m, NONE);
        for (int i = 0; i < size; i++) {
            s.append(i == 0 ? "" : " ").append(x.without(m, i));
        }
        return s.toString();
    }

    private static void withoutOne() {
        CrossedSheets x = Check.on("1{0:2{1:3}}[2!3:4](5/4 6/5 7)");
        String[] want = {"1 4 7", "1 2 4 7", "1 2 3 4 7", "1 2 3 7", "1 2 3 4 5", "1 2 3 4 6"};
        for (int m = 0; m < 6; m++) {
            DOC.due("without(" + m + ")", without(x, m), want[m]);
        }
        x.ink(5, 1);
        x.earlier(1, 0, false);
        x.ink(0, 2);
        x.earlier(2, 1, true);
        DOC.due("with what is behind it by its ink", without(x, 0), "1 4 6");
    }

    private static void withoutTheOnlyOne() {
        DOC.due("nothing is left", Check.on("{0:1}").without(0, NONE), 0);
        DOC.due("nothing is gone", without(Check.on("[0:1 2]"), 0), "1 2");
        CrossedSheets row = Check.on(ROW);
        for (int m = 0; m < 10; m++) {
            DOC.due("a row without " + m, without(row, m), String.valueOf(m));
        }
        DOC.due("40 words", Check.on("[0:" + forty() + "]").without(0, NONE), 40);
        DOC.due("the last of 40", Check.on("[0:" + forty() + "]").without(0, 39), 39);
    }

    private static void withoutNotSoMany() {
        CrossedSheets x = Check.on("{0:1}2");
        DOC.due("the last", x.without(0, 0), 2);
        DOC.dueForAll("without(0, ..)", i -> x.without(0, (int) i), NONE, 1, 2, 40, HIGHEST, -2, -3, LOWEST);
        CrossedSheets y = Check.on("{0:1}");
        DOC.dueForAll("of an empty text", i -> y.without(0, (int) i), NONE, 0, 1, HIGHEST, -2, LOWEST);
        CrossedSheets z = Check.on("[0:" + forty() + "]");
        DOC.due("behind 40 words", z.without(0, 40), NONE);
    }

    private static void withoutUnknown() {
        CrossedSheets x = Check.on("{0:1}2");
        for (int i : new int[] {NONE, 0, 9}) {
            DOC.dueForAll("without(.., " + i + ")", m -> x.without((int) m, i), UNKNOWN, -1, 1, 10, LOWEST, HIGHEST);
        }
        CrossedSheets ten = Check.on(TEN);
        DOC.due("the last of ten", ten.without(9, NONE), 9);
        DOC.due("behind the last of ten", ten.without(10, NONE), UNKNOWN);
        DOC.due("without marks", Check.on("1").without(0, NONE), UNKNOWN);
    }
}
