/** Promises 23 to 30 with the sentences of section 3 of 'Terms' on the draft, copies and their times. */
final class EdgesOfCopiesTest {
    private static final int NONE = CrossedSheets.NONE;
    private static final int UNKNOWN = CrossedSheets.UNKNOWN;
    private static final int OUTSIDE = CrossedSheets.OUTSIDE;
    private static final int NOT = CrossedSheets.NOT;
    private static final int FULL = CrossedSheets.FULL;
    private static final int LOWEST = Integer.MIN_VALUE;
    private static final int HIGHEST = Integer.MAX_VALUE;
    private static final String ROW = "(0/0 1/1 2/2 3/3 4/4 5/5 6/6 7/7 8/8 9/9 10)";
    /** Ten marks, none of which ever changes anything. */
    private static final String IDLE = "<0:1>*0<1:1>*1<2:1>*2<3:1>*3<4:1>*4<5:1>*5<6:1>*6<7:1>*7<8:1>*8<9:1>*9";
    private static final Sentences DOC = new Sentences("EdgesOfCopies");

    public static void main(String[] args) {
        DOC.says("Promise 23", "A WORD comes behind THE DRAFT: how many it has", EdgesOfCopiesTest::wordsComeBehind);
        DOC.says("Promise 23", "OUTSIDE, FULL", EdgesOfCopiesTest::writeOutside);
        DOC.says("Terms 3", "THE DRAFT is a row of WORDS (40 at most)", EdgesOfCopiesTest::fortyWords);
        DOC.says("Promise 24", "THE DRAFT becomes the TEXT of a GOOD SET: how many WORDS",
            EdgesOfCopiesTest::emptyAndFullDraft);
        DOC.says("Promise 24", "UNKNOWN (bits), NOT: it is not GOOD", EdgesOfCopiesTest::seeRefused);
        DOC.says("Promise 25", "THE DRAFT (it is empty then) is a COPY: its number",
            EdgesOfCopiesTest::draftIsEmptyThen);
        DOC.says("Terms 3", "A COPY (4 at most)", EdgesOfCopiesTest::fourCopies);
        DOC.says("Promise 25", "FULL (THE DRAFT stays)", EdgesOfCopiesTest::draftStays);
        DOC.says("Promise 26", "The last COPY is gone: how many WORDS it had; NONE: there is none",
            EdgesOfCopiesTest::dropAll);
        DOC.says("Terms 3", "GOOD SETS with just that TEXT, the lesser ahead", EdgesOfCopiesTest::justThatText);
        DOC.says("Promise 27", "TIMES of a COPY: i = NONE how many, else the i-th SET",
            EdgesOfCopiesTest::fewestAndMostTimes);
        DOC.says("Promise 27", "NONE (i below NONE, too)", EdgesOfCopiesTest::timesNotSoMany);
        DOC.says("Promise 27", "UNKNOWN", EdgesOfCopiesTest::timesUnknown);
        DOC.says("Terms 3", "COPY by COPY, each within (or the same as) that of the next one",
            EdgesOfCopiesTest::eachWithinTheNext);
        DOC.says("Promise 28", "by which they HOLD (1 without COPIES)", EdgesOfCopiesTest::fewestAndMostRows);
        DOC.says("Terms 3", "that with the fewest MARKS (of like ones the least SET)", EdgesOfCopiesTest::earliest);
        DOC.says("Terms 3", "LATEST: with the most (of like ones the least SET)", EdgesOfCopiesTest::latest);
        DOC.says("Terms 3", "EARLIEST of a COPY: of its TIMES in such rows of TIMES", EdgesOfCopiesTest::inSuchRows);
        DOC.says("Promise 29", "NONE: they do not HOLD", EdgesOfCopiesTest::theyDoNotHold);
        DOC.says("Promise 29", "UNKNOWN, OUTSIDE", EdgesOfCopiesTest::whenRefused);
        DOC.says("Promise 30", "what = 0 how far, 1 the least such GOOD SET", EdgesOfCopiesTest::nearestAndFarthest);
        DOC.says("Promise 30", "UNKNOWN, OUTSIDE", EdgesOfCopiesTest::nearestRefused);
        DOC.end();
    }

    private static void copyOf(CrossedSheets x, int... words) {
        for (int w : words) {
            x.write(w);
        }
        x.copy();
    }

    private static String forty() {
        StringBuilder s = new StringBuilder();
        for (int k = 0; k < 40; k++) {
            s.append(k).append(' ');
        }
        return s.toString();
    }

    private static CrossedSheets withCopies(String told, int copies) {
        CrossedSheets x = Check.on(told);
        for (int c = 0; c < copies; c++) {
            x.see(0);
            x.copy();
        }
        return x;
    }

    // ---- the draft

    private static void wordsComeBehind() {
        CrossedSheets x = Check.on("5 0 99");
        DOC.due("the draft of a new object", x.count(3), 0);
        DOC.due("the first", x.write(5), 1);
        DOC.due("the second", x.write(0), 2);
        DOC.due("the third", x.write(99), 3);
        x.copy();
        DOC.due("in this order", x.times(0, 0), 0);
        DOC.due("the first of the next draft", x.write(5), 1);
    }

    private static void writeOutside() {
        CrossedSheets x = Check.on("0 99");
        DOC.due("the least", x.write(0), 1);
        DOC.due("the greatest", x.write(99), 2);
        DOC.dueForAll("write", w -> x.write((int) w), OUTSIDE, -1, 100, 101, 256, LOWEST, HIGHEST);
        DOC.due("words", x.count(3), 2);
        x.copy();
        DOC.due("none of these came in", x.times(0, NONE), 1);
    }

    private static void fortyWords() {
        CrossedSheets x = Check.on(forty());
        for (int k = 0; k < 40; k++) {
            DOC.due("write", x.write(k), k + 1);
        }
        DOC.dueForAll("a 41st", w -> x.write((int) w), FULL, 0, 40, 99);
        DOC.dueForAll("a 41st that is no word", w -> x.write((int) w), OUTSIDE, -1, 100);
        DOC.due("words", x.count(3), 40);
        x.copy();
        DOC.due("as they were", x.times(0, 0), 0);
        DOC.due("room again", x.write(1), 1);
        CrossedSheets y = Check.on(forty());
        DOC.due("seen", y.see(0), 40);
        DOC.due("one more", y.write(1), FULL);
        DOC.due("words", y.count(3), 40);
    }

    private static void emptyAndFullDraft() {
        CrossedSheets x = Check.on("[0:" + forty() + "]");
        x.write(7);
        DOC.due("full", x.see(0), 40);
        DOC.due("count(3)", x.count(3), 40);
        DOC.due("empty", x.see(1), 0);
        DOC.due("count(3)", x.count(3), 0);
        DOC.due("what was there is gone", x.write(7), 1);
        DOC.due("full again", x.see(0), 40);
        x.copy();
        DOC.due("just the text", x.times(0, 0), 0);
        DOC.due("of a new object", new CrossedSheets().see(0), 0);
        CrossedSheets y = Check.on("1{0:2}");
        y.see(1);
        y.write(3);
        y.copy();
        DOC.due("the sheet is as it was", Check.text(y, 1), "1 2");
        y.see(1);
        y.ink(0, 2);
        Check.feed(y, "9");
        y.sheet();
        DOC.due("the draft is as it was", y.count(3), 2);
    }

    private static void seeRefused() {
        CrossedSheets x = Check.on("1{0:2{1:3}}");
        DOC.due("the greatest", x.see(3), 3);
        DOC.dueForAll("see", set -> x.see((int) set), UNKNOWN, 4, 6, 1024, HIGHEST, -1, LOWEST);
        DOC.due("see(2)", x.see(2), NOT);
        DOC.due("the draft stays", x.count(3), 3);
        x.copy();
        DOC.due("its words stay", x.times(0, 0), 3);
        DOC.due("without marks", Check.on("1").see(1), UNKNOWN);
        DOC.due("without marks", Check.on("1").see(0), 1);
    }

    // ---- copies

    private static void draftIsEmptyThen() {
        CrossedSheets x = Check.on("1 2");
        x.see(0);
        DOC.due("copy()", x.copy(), 0);
        DOC.due("the draft", x.count(3), 0);
        DOC.due("copy() of an empty draft", x.copy(), 1);
        DOC.due("the first has its words", x.times(0, NONE), 1);
        DOC.due("the second has none", x.times(1, NONE), 0);
        DOC.due("drop()", x.drop(), 0);
        DOC.due("drop()", x.drop(), 2);
        CrossedSheets y = Check.on("");
        DOC.due("an empty draft is a copy", y.copy(), 0);
        DOC.due("of an empty sheet", y.times(0, 0), 0);
    }

    private static void fourCopies() {
        CrossedSheets x = Check.on("1");
        for (int c = 0; c < 4; c++) {
            DOC.due("copy " + c, x.copy(), c);
            DOC.due("copies", x.count(4), c + 1);
        }
        DOC.due("a fifth", x.copy(), FULL);
        DOC.due("a fifth", x.copy(), FULL);
        DOC.due("copies", x.count(4), 4);
        x.drop();
        DOC.due("a fourth again", x.copy(), 3);
        DOC.due("a fifth", x.copy(), FULL);
    }

    private static void draftStays() {
        CrossedSheets x = Check.on("1{0:2}");
        for (int c = 0; c < 4; c++) {
            x.see(0);
            x.copy();
        }
        x.see(1);
        DOC.due("a fifth", x.copy(), FULL);
        DOC.due("words of the draft", x.count(3), 2);
        DOC.due("the last copy is as it was", x.times(3, 0), 0);
        DOC.due("the last copy is as it was", x.drop(), 1);
        DOC.due("the draft becomes it", x.copy(), 3);
        DOC.due("with its words", x.times(3, 0), 1);
    }

    private static void dropAll() {
        CrossedSheets x = Check.on("1 2 3");
        DOC.due("none yet", x.drop(), NONE);
        DOC.due("none yet", x.count(4), 0);
        copyOf(x);
        copyOf(x, 1);
        copyOf(x, 1, 2);
        x.see(0);
        x.copy();
        x.write(7);
        for (int words = 3; words >= 0; words--) {
            DOC.due("drop()", x.drop(), words);
            DOC.due("copies", x.count(4), words);
            DOC.due("the draft stays", x.count(3), 1);
        }
        DOC.due("none any more", x.drop(), NONE);
        DOC.due("none any more", x.count(4), 0);
        DOC.due("the first again", x.copy(), 0);
        CrossedSheets y = Check.on(forty());
        y.see(0);
        y.copy();
        DOC.due("40 words", y.drop(), 40);
    }

    // ---- times

    private static void justThatText() {
        CrossedSheets x = Check.on("1{0:2}{1:2}3");
        copyOf(x, 1, 2, 3);
        copyOf(x, 1, 2);
        copyOf(x, 2, 3);
        copyOf(x, 1, 3, 2);
        DOC.due("just that", x.times(0, NONE), 2);
        DOC.due("the lesser", x.times(0, 0), 1);
        DOC.due("the other one", x.times(0, 1), 2);
        DOC.due("its beginning alone", x.times(1, NONE), 0);
        DOC.due("its end alone", x.times(2, NONE), 0);
        DOC.due("in another order", x.times(3, NONE), 0);
        x.drop();
        copyOf(x, 1, 2, 2, 3);
        DOC.due("both marks", x.times(3, 0), 3);
        x.ink(0, 1);
        x.earlier(0, 1, true);
        DOC.due("good sets alone", x.times(0, NONE), 1);
        DOC.due("good sets alone", x.times(0, 0), 2);
    }

    private static void fewestAndMostTimes() {
        CrossedSheets x = withCopies(IDLE, 1);
        DOC.due("most", x.times(0, NONE), 1024);
        DOC.due("the first", x.times(0, 0), 0);
        DOC.due("the last", x.times(0, 1023), 1023);
        copyOf(x, 2);
        DOC.due("fewest", x.times(1, NONE), 0);
        DOC.due("none is the first", x.times(1, 0), NONE);
        CrossedSheets row = Check.on(ROW);
        copyOf(row, 10);
        DOC.due("behind all", row.times(0, 0), 1023);
        copyOf(row, 0);
        DOC.due("behind none", row.times(1, 0), 0);
        copyOf(row);
        DOC.due("an empty copy", row.times(2, NONE), 0);
        CrossedSheets empty = Check.on("[0:1]");
        copyOf(empty);
        DOC.due("an empty copy of an empty text", empty.times(0, 0), 1);
    }

    private static void timesNotSoMany() {
        CrossedSheets x = withCopies(IDLE, 1);
        DOC.dueForAll("times(0, ..)", i -> x.times(0, (int) i), NONE, 1024, 1025, HIGHEST, -2, -3, LOWEST);
        CrossedSheets y = withCopies("1", 1);
        DOC.due("the only one", y.times(0, 0), 0);
        DOC.dueForAll("times(0, ..)", i -> y.times(0, (int) i), NONE, 1, 2, HIGHEST, -2, LOWEST);
        copyOf(y, 2);
        DOC.dueForAll("times(1, ..)", i -> y.times(1, (int) i), NONE, 0, 1, HIGHEST, -2, LOWEST);
    }

    private static void timesUnknown() {
        for (int copies = 0; copies <= 4; copies++) {
            CrossedSheets x = withCopies("1", copies);
            DOC.due("the last of " + copies, x.times(copies - 1, NONE), copies == 0 ? UNKNOWN : 1);
            for (int i : new int[] {NONE, 0, -2}) {
                DOC.dueForAll("times(.., " + i + ") of " + copies, c -> x.times((int) c, i), UNKNOWN,
                    -1, copies, copies + 1, 5, LOWEST, HIGHEST);
            }
        }
        CrossedSheets x = withCopies("1", 2);
        x.drop();
        DOC.due("one that is gone", x.times(1, NONE), UNKNOWN);
    }

    // ---- they hold

    private static void holds(String told, long want, int[]... copies) {
        CrossedSheets x = Check.on(told);
        for (int[] copy : copies) {
            copyOf(x, copy);
        }
        DOC.due("holds() of " + copies.length + " copies of " + told, x.holds(), want);
    }

    private static int[] words(int... words) {
        return words;
    }

    private static void eachWithinTheNext() {
        holds("{0:1}{1:1}", 2, words(1), words(1));
        holds("{0:1}{1:1}", 2, words(1), words(1, 1));
        holds("{0:1}{1:1}", 0, words(1, 1), words(1));
        holds("{0:1}{1:1}", 2, words(), words(1), words(1), words(1, 1));
        holds("{0:1}{1:2}", 0, words(1), words(2));
        holds("{0:1}{1:2}", 1, words(1), words(1, 2));
        holds("[0!1:1]", 1, words(1), words());
        holds("[0!1:1]", 3, words(1), words(1));
        holds("[0!1:1]", 1, words(1), words(), words(1));
        holds("[0!1:1]", 0, words(), words(1), words());
        holds("[0!1:1]{2:2}", 1, words(), words(1, 2));
        holds("1", 1, words(1), words(1), words(1), words(1));
        holds("1", 0, words(1), words(1), words(1), words(2));
        holds("1", 0, words(2), words(1), words(1), words(1));
    }

    private static void fewestAndMostRows() {
        DOC.due("a new object", new CrossedSheets().holds(), 1);
        DOC.due("without copies", Check.on("{0:1}{1:1}").holds(), 1);
        DOC.due("one copy of 1024 times", withCopies(IDLE, 1).holds(), 1024);
        DOC.due("two copies", withCopies(IDLE, 2).holds(), 59049);
        DOC.due("three copies", withCopies(IDLE, 3).holds(), 1048576);
        CrossedSheets x = withCopies(IDLE, 4);
        DOC.due("four copies", x.holds(), 9765625);
        for (int c = 0; c < 4; c++) {
            x.drop();
        }
        DOC.due("without copies again", x.holds(), 1);
        copyOf(x, 5);
        DOC.due("a copy without times", x.holds(), 0);
    }

    private static CrossedSheets with(String told, int[]... copies) {
        CrossedSheets x = Check.on(told);
        for (int[] copy : copies) {
            copyOf(x, copy);
        }
        return x;
    }

    private static void earliest() {
        CrossedSheets x = with("{0:1}{1:2}{2:1 2}", words(1, 2));
        DOC.due("times", x.times(0, NONE), 2);
        DOC.due("the fewest marks, though 3 is less", x.when(0, 0), 4);
        DOC.due("of like ones the least", with("{0:1}{1:1}{2:1}", words(1, 1)).when(0, 0), 3);
        DOC.due("no mark at all", withCopies(IDLE, 1).when(0, 0), 0);
        DOC.due("all marks", with(ROW, words(10)).when(0, 0), 1023);
    }

    private static void latest() {
        CrossedSheets x = with("{0:1}{1:2}{2:1 2}", words(1, 2));
        DOC.due("the most marks, though 4 is more", x.when(0, 1), 3);
        DOC.due("of like ones the least", with("{0:1}{1:1}{2:1}", words(1, 1)).when(0, 1), 3);
        DOC.due("all marks", withCopies(IDLE, 1).when(0, 1), 1023);
        DOC.due("one more than none", withCopies("<0:1>*0", 1).when(0, 1), 1);
        DOC.due("one more than one", with("<0:1>*0{1:2}", words(1, 2)).when(0, 1), 3);
        DOC.due("no mark at all", with(ROW, words(0)).when(0, 1), 0);
        DOC.due("without marks", withCopies("1", 1).when(0, 1), 0);
    }

    private static void whens(CrossedSheets x, int c, int first, int last) {
        DOC.due("when(" + c + ", 0)", x.when(c, 0), first);
        DOC.due("when(" + c + ", 1)", x.when(c, 1), last);
    }

    private static void inSuchRows() {
        CrossedSheets x = with("{0:1}{1:2}{2:1 2}", words(1, 2), words(1, 1, 2));
        whens(x, 0, 4, 4);
        whens(x, 1, 5, 5);
        CrossedSheets y = with("{0:1}{1:2}{2:1 2}", words(1), words(1, 2));
        whens(y, 0, 1, 1);
        whens(y, 1, 3, 3);
        CrossedSheets z = with("{0:1}{1:2}{2:1 2}", words(), words(1, 2), words(1, 2, 1, 2));
        whens(z, 0, 0, 0);
        whens(z, 1, 4, 3);
        whens(z, 2, 7, 7);
        CrossedSheets all = withCopies(IDLE, 4);
        for (int c = 0; c < 4; c++) {
            whens(all, c, 0, 1023);
        }
        CrossedSheets u = with("[0!1:1]", words(1), words(), words(1), words(1));
        whens(u, 0, 0, 0);
        whens(u, 1, 1, 1);
        whens(u, 2, 3, 3);
        whens(u, 3, 3, 3);
    }

    private static void theyDoNotHold() {
        CrossedSheets x = with("{0:1}{1:2}", words(1), words(2));
        for (int c = 0; c < 2; c++) {
            whens(x, c, NONE, NONE);
        }
        x.drop();
        whens(x, 0, 1, 1);
        copyOf(x, 5);
        whens(x, 0, NONE, NONE);
        whens(x, 1, NONE, NONE);
        CrossedSheets y = with("1", words(1), words(1), words(1), words(2));
        for (int c = 0; c < 4; c++) {
            whens(y, c, NONE, NONE);
        }
        DOC.due("outside is refused then, too", y.when(0, 2), OUTSIDE);
        CrossedSheets z = with("1", words(2), words(1), words(1), words(1));
        for (int c = 0; c < 4; c++) {
            whens(z, c, NONE, NONE);
        }
    }

    private static void whenRefused() {
        for (int copies = 0; copies <= 4; copies++) {
            CrossedSheets x = withCopies("1", copies);
            for (int what = 0; what <= 1; what++) {
                int w = what;
                DOC.due("the last of " + copies, x.when(copies - 1, what), copies == 0 ? UNKNOWN : 0);
                DOC.dueForAll("when(.., " + what + ") of " + copies, c -> x.when((int) c, w), UNKNOWN,
                    -1, copies, copies + 1, 5, LOWEST, HIGHEST);
            }
            DOC.due("both", x.when(copies, 2), UNKNOWN);
        }
        CrossedSheets x = withCopies("1", 1);
        DOC.dueForAll("when(0, ..)", what -> x.when(0, (int) what), OUTSIDE, -1, 2, 3, LOWEST, HIGHEST);
    }

    // ---- nearest

    private static void near(String what, CrossedSheets x, int c, int far, int set) {
        DOC.due(what + ": how far", x.nearest(c, 0), far);
        DOC.due(what + ": the least set", x.nearest(c, 1), set);
    }

    private static void nearestAndFarthest() {
        CrossedSheets first = Check.on("(1/0 9)2 3");
        copyOf(first, 9);
        near("ahead of any call that has asked for a text", first, 0, 2, 1);
        CrossedSheets none = new CrossedSheets();
        none.copy();
        near("nothing and nothing", none, 0, 0, 0);
        CrossedSheets x = Check.on(forty());
        copyOf(x);
        near("an empty copy", x, 0, 40, 0);
        x.see(0);
        x.copy();
        near("40 words", x, 1, 0, 0);
        for (int k = 0; k < 40; k++) {
            x.write(99);
        }
        x.copy();
        near("40 other words", x, 2, 40, 0);
        x.sheet();
        near("40 words and an empty sheet", x, 1, 40, 0);
        near("an empty copy and an empty sheet", x, 0, 0, 0);
        CrossedSheets row = Check.on(ROW);
        copyOf(row, 10);
        near("behind all marks", row, 0, 0, 1023);
        copyOf(row, 77);
        near("all as far", row, 1, 1, 0);
        near("of idle marks the least", withCopies(IDLE, 1), 0, 0, 0);
        CrossedSheets y = with("1{0:2}{1:2}3", words(1, 2, 3), words(2, 2), words(1, 9, 3), words());
        near("of like ones the least", y, 0, 0, 1);
        near("far from all", y, 1, 2, 0);
        near("changed", y, 2, 1, 0);
        near("empty", y, 3, 2, 0);
        y.ink(0, 1);
        y.earlier(0, 1, true);
        near("good sets alone", y, 0, 0, 2);
    }

    private static void nearestRefused() {
        for (int copies = 0; copies <= 4; copies++) {
            CrossedSheets x = withCopies("1", copies);
            for (int what = 0; what <= 1; what++) {
                int w = what;
                DOC.due("the last of " + copies, x.nearest(copies - 1, what), copies == 0 ? UNKNOWN : 0);
                DOC.dueForAll("nearest(.., " + what + ") of " + copies, c -> x.nearest((int) c, w), UNKNOWN,
                    -1, copies, copies + 1, 5, LOWEST, HIGHEST);
            }
            DOC.due("both", x.nearest(copies, 2), UNKNOWN);
        }
        CrossedSheets x = withCopies("1", 1);
        DOC.dueForAll("nearest(0, ..)", what -> x.nearest(0, (int) what), OUTSIDE, -1, 2, 3, LOWEST, HIGHEST);
    }
}
