/** Promises 17 to 22: what the sheet said. */
final class TextTest {
    private static final int NONE = CrossedSheets.NONE;
    private static final int UNKNOWN = CrossedSheets.UNKNOWN;
    private static final int OUTSIDE = CrossedSheets.OUTSIDE;
    private static final int NOT = CrossedSheets.NOT;
    private static final Check CHECK = new Check("Text");

    public static void main(String[] args) {
        textOfEachKind();
        textOfMoves();
        textRefuses();
        view();
        word();
        idle();
        apart();
        apartOfLongTexts();
        without();
        CHECK.end();
    }

    private static void texts(String told, String... want) {
        CrossedSheets x = Check.on(told);
        for (int k = 0; k < want.length; k += 2) {
            int set = Integer.parseInt(want[k]);
            CHECK.due("text(" + set + ") of " + told, Check.text(x, set), want[k + 1]);
        }
    }

    private static void textOfEachKind() {
        texts("1 99 0", "0", "1 99 0");
        texts("1{0:2{1:3}}4", "0", "1 4", "1", "1 2 4", "3", "1 2 3 4");
        texts("1[0:2[1:3]]4", "0", "1 2 3 4", "1", "1 4", "2", "1 2 4", "3", "1 4");
        texts("1[0!1:2[2:3]]4", "0", "1 2 3 4", "1", "1 4", "3", "1 2 3 4", "7", "1 2 4", "5", "1 4");
        texts("1[1!0:2]", "0", "1 2", "2", "1", "3", "1 2");
        texts("1(2/0 3/1 4)5", "0", "1 2 5", "1", "1 3 5", "3", "1 4 5");
        texts("[0:(1/1 2)]{2:(3/3 4)}", "0", "1", "1", "", "2", "2", "4", "1 3", "12", "1 4", "15", "4");
    }

    private static void textOfMoves() {
        texts("1<0:2 3>4*0 5", "0", "1 2 3 4 5", "1", "1 4 2 3 5");
        texts("1*0 2<0:3>", "0", "1 2 3", "1", "1 3 2");
        texts("<0:1<1:2>3>4*0*1", "0", "1 2 3 4", "1", "4 1 2 3", "2", "1 3 4 2", "3", "4 1 3 2");
        texts("<0:1<1:2>3>4*1*0", "1", "4 1 2 3", "2", "1 3 4 2", "3", "4 2 1 3");
        texts("<0:1><1:2>*1*0", "0", "1 2", "1", "2 1", "2", "1 2", "3", "2 1");
        texts("<0:1[1:2]>3*0", "2", "1 3", "3", "3 1");
        texts("[0:1*1]2<1:3>", "0", "1 2 3", "1", "2 3", "2", "1 3 2", "3", "2");
        texts("[0:1<1:2>]3*1", "0", "1 2 3", "1", "3", "2", "1 3 2", "3", "3 2");
        texts("{0:1*1}2<1:3>", "0", "2 3", "1", "1 2 3", "3", "1 3 2");
        texts("<0:{1:1}2>3*0", "0", "2 3", "1", "3 2", "2", "1 2 3", "3", "3 1 2");
        texts("<0:(1/1 2)>3*0", "3", "3 2");
    }

    private static void textRefuses() {
        CrossedSheets x = Check.on("1{0:2{1:3}}4");
        CHECK.due("text(3, -1)", x.text(3, NONE), 4);
        CHECK.due("text(3, 3)", x.text(3, 3), 4);
        CHECK.due("text(3, 4)", x.text(3, 4), NONE);
        CHECK.due("text(3, -2)", x.text(3, -2), NONE);
        CHECK.due("text(3, max)", x.text(3, Integer.MAX_VALUE), NONE);
        CHECK.due("text(2, 0)", x.text(2, 0), NOT);
        CHECK.due("text(2, 99)", x.text(2, 99), NOT);
        CHECK.due("text(4, 0)", x.text(4, 0), UNKNOWN);
        CHECK.due("text(6, 0)", x.text(6, 0), UNKNOWN);
        CHECK.due("text(-1, 0)", x.text(-1, 0), UNKNOWN);
        CHECK.due("text(min, -1)", x.text(Integer.MIN_VALUE, NONE), UNKNOWN);
        x.ink(1, 1);
        x.ink(0, 2);
        Check.feed(x, "{0:5}{1:6}");
        x.sheet();
        x.ink(0, 1);
        x.earlier(0, 1, true);
        CHECK.due("text(1, -1) with inks", x.text(1, NONE), NOT);
        CHECK.due("text(2, 0) with inks", x.text(2, 0), 6);
    }

    private static void views(CrossedSheets x, int... want) {
        CHECK.due("view(-1) of " + Check.printed(x), x.view(NONE), want.length);
        for (int i = 0; i < want.length; i++) {
            CHECK.due("view(" + i + ") of " + Check.printed(x), x.view(i), want[i]);
        }
        CHECK.due("view behind the last", x.view(want.length), NONE);
        CHECK.due("view(-2)", x.view(-2), NONE);
        CHECK.due("view(min)", x.view(Integer.MIN_VALUE), NONE);
    }

    private static void view() {
        views(Check.on("1"), 0);
        views(Check.on("[0!1:1]"), 0, 1);
        views(Check.on("{0:1}{1:1}"), 0, 1, 3);
        views(Check.on("(1/0 2)(1/1 2)[2:3]"), 0, 1, 2, 3, 4, 5, 6, 7);
        CrossedSheets x = Check.on("{0:1}{1:1}{2:2}");
        views(x, 0, 1, 3, 4, 5, 7);
        x.ink(2, 1);
        x.earlier(1, 0, true);
        views(x, 0, 4, 5, 7);
        CHECK.due("1024 views", Check.on("{0:0}{1:1}{2:2}{3:3}{4:4}{5:5}{6:6}{7:7}{8:8}{9:9}").view(NONE), 1024);
        CHECK.due("11 views", Check.on("{0:0}{1:0}{2:0}{3:0}{4:0}{5:0}{6:0}{7:0}{8:0}{9:0}").view(NONE), 11);
        views(Check.on("{0:0}{1:0 0}"), 0, 1, 2, 3);
    }

    private static void words(CrossedSheets x, int w, int... want) {
        for (int what = 0; what < want.length; what++) {
            CHECK.due("word(" + w + ", " + what + ")", x.word(w, what), want[what]);
        }
    }

    private static void word() {
        CrossedSheets x = Check.on("[0:1]{1:2{2:3}}[3!4:4](5/5 2)");
        words(x, 1, 1, 0, 0, 5, 3 * 3 * 2);
        words(x, 2, 0, 1, 1, 6, 36 - 6);
        words(x, 3, 0, 1, 2, 6, 12);
        words(x, 4, 1, 1, 0, 6, 24);
        words(x, 5, 1, 0, 0, 5, 18);
        words(x, 6, 0, 0, NONE, NONE, 0);
        CHECK.due("word(100, 0)", x.word(100, 0), OUTSIDE);
        CHECK.due("word(-1, 0)", x.word(-1, 0), OUTSIDE);
        CHECK.due("word(1, 5)", x.word(1, 5), OUTSIDE);
        CHECK.due("word(1, -1)", x.word(1, -1), OUTSIDE);
        words(Check.on("(0/0 1/1 2/2 3/3 4/4 5/5 6/6 7/7 8/8 9/9 10)"), 10, 0, 1, 10, 10, 1);
        words(Check.on("0 99"), 99, 1, 1, 0, 0, 1);
        words(Check.on("0 99"), 0, 1, 1, 0, 0, 1);
        words(Check.on(""), 0, 0, 0, NONE, NONE, 0);
    }

    private static void idles(String told, int want) {
        CHECK.due("idle() of " + told, Check.on(told).idle(), want);
    }

    private static void idle() {
        idles("", 0);
        idles("{0:1}", 0);
        idles("(1/0 1/1 2)", 1);
        idles("<0:1>*0 2", 1);
        idles("<0:1>2*0", 0);
        idles("[0:[1:2]]", 0);
        idles("{0:*1}<1:1>2", 3);
        idles("{0:*1}2<1:1>", 1);
        idles("{0:[1:2]}", 0);
        CrossedSheets x = Check.on("[0:[1:2]]");
        x.ink(0, 1);
        x.earlier(1, 0, true);
        CHECK.due("what is struck out already", x.idle(), 2);
    }

    private static void apart() {
        CrossedSheets x = Check.on("1{0:2{1:3}}(4/2 5)<3:6>7*3");
        CHECK.due("apart(0, 0)", x.apart(0, 0), 0);
        CHECK.due("apart(0, 1)", x.apart(0, 1), 1);
        CHECK.due("apart(0, 3)", x.apart(0, 3), 2);
        CHECK.due("apart(3, 0)", x.apart(3, 0), 2);
        CHECK.due("apart(0, 4)", x.apart(0, 4), 1);
        CHECK.due("apart(0, 8)", x.apart(0, 8), 2);
        CHECK.due("apart(0, 15)", x.apart(0, 15), 4);
        CHECK.due("apart(16, 0)", x.apart(16, 0), UNKNOWN);
        CHECK.due("apart(0, 16)", x.apart(0, 16), UNKNOWN);
        CHECK.due("apart(-1, 0)", x.apart(-1, 0), UNKNOWN);
        CHECK.due("apart(2, 0)", x.apart(2, 0), NOT);
        CHECK.due("apart(0, 2)", x.apart(0, 2), NOT);
        CHECK.due("unknown ahead of not", x.apart(2, 16), UNKNOWN);
        CHECK.due("unknown ahead of not", x.apart(16, 2), UNKNOWN);
        CrossedSheets z = Check.on("{0:3}1 2 3");
        CHECK.due("up and down again", z.apart(0, 1), 1);
        CHECK.due("up and down again", z.apart(1, 0), 1);
        CrossedSheets y = Check.on("[0:1 2 3]");
        CHECK.due("from nothing", y.apart(1, 0), 3);
        CHECK.due("to nothing", y.apart(0, 1), 3);
        CHECK.due("nothing and nothing", y.apart(1, 1), 0);
    }

    private static void apartOfLongTexts() {
        StringBuilder told = new StringBuilder("{0:1}");
        for (int k = 2; k < 39; k++) {
            told.append(k).append(' ');
        }
        CrossedSheets x = Check.on(told + "{1:39}{2:40}");
        CHECK.due("40 words", x.text(7, NONE), 40);
        CHECK.due("one put in ahead", x.apart(0, 1), 1);
        CHECK.due("one put in behind", x.apart(0, 2), 1);
        CHECK.due("one ahead, two behind", x.apart(1, 6), 3);
        CrossedSheets y = Check.on("[0:" + told.substring(5) + "][1:" + "1 1 1" + "]");
        CHECK.due("40 words against none", y.apart(0, 3), 40);
        CHECK.due("37 words against 3", y.apart(2, 1), 37);
        CHECK.due("40 words against 3", y.apart(0, 1), 37);
    }

    private static void without() {
        CrossedSheets x = Check.on("1{0:2{1:3}}(4/2 5/3 6)[4!5:7]");
        String[] want = {"1 6 7", "1 2 6 7", "1 2 3 4 7", "1 2 3 5 7", "1 2 3 6 7", "1 2 3 6"};
        for (int m = 0; m < 6; m++) {
            StringBuilder s = new StringBuilder();
            int size = x.without(m, NONE);
            for (int i = 0; i < size; i++) {
                s.append(i == 0 ? "" : " ").append(x.without(m, i));
            }
            CHECK.due("without(" + m + ")", s.toString(), want[m]);
            CHECK.due("behind the last", x.without(m, size), NONE);
            CHECK.due("below none", x.without(m, -2), NONE);
        }
        CHECK.due("without(6, 0)", x.without(6, 0), UNKNOWN);
        CHECK.due("without(-1, 0)", x.without(-1, 0), UNKNOWN);
        x.ink(0, 1);
        x.ink(1, 1);
        x.earlier(1, 0, true);
        CHECK.due("all behind it by its ink", x.without(0, NONE), 3);
        CHECK.due("all behind it by its ink", x.without(1, NONE), 4);
    }
}
