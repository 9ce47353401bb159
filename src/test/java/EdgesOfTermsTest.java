import java.util.function.Consumer;
import java.util.function.ToLongFunction;

/** The sentences of 'The public face' and of 'Terms' ahead of its section 1: constants, numbers, sets, refusals. */
final class EdgesOfTermsTest {
    private static final int NONE = CrossedSheets.NONE;
    private static final int UNKNOWN = CrossedSheets.UNKNOWN;
    private static final int OUTSIDE = CrossedSheets.OUTSIDE;
    private static final int NOT = CrossedSheets.NOT;
    private static final int FULL = CrossedSheets.FULL;
    private static final int LOWEST = Integer.MIN_VALUE;
    private static final int HIGHEST = Integer.MAX_VALUE;
    private static final String TEN = "{0:0}{1:1}{2:2}{3:3}{4:4}{5:5}{6:6}{7:7}{8:8}{9:9}";
    private static final Sentences DOC = new Sentences("EdgesOfTerms");

    private static Consumer<CrossedSheets> before;

    public static void main(String[] args) {
        DOC.says("The public face", "NONE = -1, UNKNOWN = -1001, OUTSIDE = -1002, NOT = -1003, FULL = -1004",
            EdgesOfTermsTest::constants);
        DOC.says("What it is", "An object is used for at most 512 calls after it has been made",
            EdgesOfTermsTest::the512thCallAnswers);
        DOC.says("Terms", "What has a number has it from 0 on, as it comes", EdgesOfTermsTest::numbersFromNought);
        DOC.says("Terms", "A SET is a whole number, bit k for MARK k", EdgesOfTermsTest::bitsOfSets);
        DOC.says("Terms", "REFUSALS, of several the first in this order: UNKNOWN", EdgesOfTermsTest::unknownIsFirst);
        DOC.says("Terms", "OUTSIDE (another number out of its bounds), NOT (not now, as told), FULL",
            EdgesOfTermsTest::outsideIsAheadOfFull);
        DOC.says("Terms", "What is refused changes nothing", EdgesOfTermsTest::refusedOnTheSheet);
        DOC.says("Terms", "What is refused changes nothing", EdgesOfTermsTest::refusedInOrders);
        DOC.says("Terms", "What is refused changes nothing", EdgesOfTermsTest::refusedInTexts);
        DOC.says("Terms", "What is refused changes nothing", EdgesOfTermsTest::refusedForCopies);
        DOC.says("Terms", "What is refused changes nothing", EdgesOfTermsTest::refusedForBars);
        DOC.says("Terms", "What is refused changes nothing", EdgesOfTermsTest::refusedWhenFull);
        DOC.says("Terms", "What is refused changes nothing", EdgesOfTermsTest::refusedOnAnEmptySheet);
        DOC.end();
    }

    private static void constants() {
        DOC.due("NONE", CrossedSheets.NONE, -1);
        DOC.due("UNKNOWN", CrossedSheets.UNKNOWN, -1001);
        DOC.due("OUTSIDE", CrossedSheets.OUTSIDE, -1002);
        DOC.due("NOT", CrossedSheets.NOT, -1003);
        DOC.due("FULL", CrossedSheets.FULL, -1004);
    }

    private static void the512thCallAnswers() {
        CrossedSheets x = new CrossedSheets();
        x.feed(6, Check.pack("1{0:2}"));
        x.sheet();
        for (int call = 3; call <= 511; call++) {
            DOC.due("call " + call, x.ink(0, call & 3), call == 3 ? 0 : call - 1 & 3);
        }
        DOC.due("call 512", x.mark(0, 1), 511 & 3);
        CrossedSheets y = Check.on("1{0:2}");
        for (int call = 3; call <= 511; call++) {
            y.sheet();
        }
        DOC.due("call 512 behind 510 sheets", y.good(NONE), 1);
    }

    private static void numbersFromNought() {
        CrossedSheets x = Check.on("7{1:8}{0:9}");
        DOC.due("print(0)", x.print(0), '7');
        DOC.due("good(0)", x.good(0), 0);
        DOC.due("order(0, 0)", x.order(0, 0), 0);
        DOC.due("session(0)", x.session(0), 0);
        DOC.due("place(0, 0)", x.place(0, 0), 0);
        DOC.due("text(3, 0)", x.text(3, 0), 7);
        DOC.due("text(3, 1)", x.text(3, 1), 8);
        DOC.due("view(0)", x.view(0), 0);
        DOC.due("without(0, 0)", x.without(0, 0), 7);
        for (int c = 0; c < 4; c++) {
            x.see(c);
            DOC.due("the next copy", x.copy(), c);
            DOC.due("times(" + c + ", 0)", x.times(c, 0), c);
        }
        x.drop();
        DOC.due("as many as are left", x.copy(), 3);
    }

    private static void bitsOfSets() {
        CrossedSheets x = Check.on(TEN);
        DOC.due("all", x.next(0), 1023);
        for (int k = 0; k < 10; k++) {
            DOC.due("word of bit " + k, x.text(1 << k, 0), k);
            DOC.due("words of bit " + k, x.text(1 << k, NONE), 1);
            DOC.due("all but " + k, x.next(1 << k), 1023 - (1 << k));
        }
    }

    private static void unknownIsFirst() {
        CrossedSheets x = Check.on("{0:1{1:2}}");
        x.ink(1, 1);
        DOC.due("mark: a mark and another number", x.mark(2, 6), UNKNOWN);
        DOC.due("place: a mark and another number", x.place(-1, 2), UNKNOWN);
        DOC.due("when: a copy and another number", x.when(0, 2), UNKNOWN);
        DOC.due("nearest: a copy and another number", x.nearest(0, 2), UNKNOWN);
        DOC.due("earlier: not now", x.earlier(1, 0, true), NOT);
        DOC.due("ink: not now, but no ink", x.ink(1, 4), UNKNOWN);
        DOC.due("next: bits, and not good", x.next(2 | 4), UNKNOWN);
        DOC.due("text: bits, and not good", x.text(2 | 4, 0), UNKNOWN);
        DOC.due("see: bits, and not good", x.see(2 | 4), UNKNOWN);
        DOC.due("breaks: bits, and not good", x.breaks(2 | 4), UNKNOWN);
        DOC.due("apart: the first is not good, the second has bits", x.apart(2, 4), UNKNOWN);
        DOC.due("apart: the first has bits, the second is not good", x.apart(4, 2), UNKNOWN);
    }

    private static void outsideIsAheadOfFull() {
        CrossedSheets x = new CrossedSheets();
        fillUp(x);
        DOC.due("feed of 0 bytes", x.feed(0, 0), OUTSIDE);
        DOC.due("feed of 9 bytes", x.feed(9, 0), OUTSIDE);
        DOC.due("feed of 1 byte", x.feed(1, 0), FULL);
        DOC.due("write(-1)", x.write(-1), OUTSIDE);
        DOC.due("write(100)", x.write(100), OUTSIDE);
        DOC.due("write(99)", x.write(99), FULL);
        DOC.due("bar(-1, 99)", x.bar(-1, 99, true), OUTSIDE);
        DOC.due("bar(99, 100)", x.bar(99, 100, true), OUTSIDE);
        DOC.due("bar(99, 99)", x.bar(99, 99, true), FULL);
    }

    /** A sheet, inks, a fault, two copies, a draft, barred pairs and some bytes that are told. */
    private static void fillSome(CrossedSheets x) {
        Check.feed(x, "1{0:2[1!2:3]}<3:4>5*3(6/4 7)");
        x.sheet();
        x.ink(0, 1);
        x.ink(3, 2);
        x.earlier(1, 2, true);
        x.earlier(0, 3, true);
        Check.feed(x, "1}");
        x.sheet();
        x.see(0);
        x.copy();
        x.see(31);
        x.copy();
        x.write(8);
        x.write(9);
        x.bar(1, 2, true);
        x.bar(5, 4, true);
        x.bar(3, 3, true);
        Check.feed(x, "8{0");
    }

    /** Four copies, 40 words of a draft, 20 pairs, 400 bytes. */
    private static void fillUp(CrossedSheets x) {
        Check.feed(x, "1{0:2}[1:3]");
        x.sheet();
        for (int k = 0; k < 50; k++) {
            x.feed(8, k < 5 ? Check.pack("1 2 3 4 ") : Check.pack("        "));
        }
        for (int k = 0; k < 4; k++) {
            x.see(k);
            x.copy();
        }
        for (int k = 0; k < 40; k++) {
            x.write(k % 10);
        }
        for (int k = 0; k < 20; k++) {
            x.bar(k / 10, k % 10, true);
        }
    }

    private static void refuse(String call, ToLongFunction<CrossedSheets> refused, long want) {
        Twins.refuse(DOC, call, before, refused, want);
    }

    private static void refusedOnTheSheet() {
        before = EdgesOfTermsTest::fillSome;
        for (int n : new int[] {0, 9, -1, LOWEST, HIGHEST}) {
            refuse("feed(" + n + ")", x -> x.feed(n, '1'), OUTSIDE);
        }
        for (int m : new int[] {-1, 5, 10, LOWEST, HIGHEST}) {
            refuse("mark(" + m + ", 0)", x -> x.mark(m, 0), UNKNOWN);
            refuse("ink(" + m + ", 0)", x -> x.ink(m, 0), UNKNOWN);
        }
        for (int what : new int[] {-1, 6, LOWEST, HIGHEST}) {
            refuse("mark(0, " + what + ")", x -> x.mark(0, what), OUTSIDE);
        }
        for (int i : new int[] {-1, 4, LOWEST, HIGHEST}) {
            refuse("ink(0, " + i + ")", x -> x.ink(0, i), UNKNOWN);
            for (boolean is : new boolean[] {true, false}) {
                refuse("earlier(0, " + i + ", " + is + ")", x -> x.earlier(0, i, is), UNKNOWN);
                refuse("earlier(" + i + ", 0, " + is + ")", x -> x.earlier(i, 0, is), UNKNOWN);
            }
        }
        for (boolean is : new boolean[] {true, false}) {
            refuse("earlier(1, 1, " + is + ")", x -> x.earlier(1, 1, is), UNKNOWN);
        }
        refuse("ink(0, 3), 0 behind 1 behind 0", x -> x.ink(0, 3), NOT);
        refuse("earlier(0, 1), 0 behind 1 behind 0", x -> x.earlier(0, 1, true), NOT);
        for (int what : new int[] {-1, 8, LOWEST, HIGHEST}) {
            refuse("count(" + what + ")", x -> x.count(what), OUTSIDE);
        }
    }

    private static void refusedInOrders() {
        before = EdgesOfTermsTest::fillSome;
        for (int set : new int[] {-1, 32, 1024, LOWEST, HIGHEST}) {
            refuse("next(" + set + ")", x -> x.next(set), UNKNOWN);
        }
        refuse("next(2)", x -> x.next(2), NOT);
        refuse("order(-1, 0)", x -> x.order(-1, 0), OUTSIDE);
        refuse("order(lowest, 0)", x -> x.order(Long.MIN_VALUE, 0), OUTSIDE);
        refuse("ahead(1, 1)", x -> x.ahead(1, 1), UNKNOWN);
        for (int m : new int[] {-1, 5, LOWEST, HIGHEST}) {
            refuse("ahead(" + m + ", 0)", x -> x.ahead(m, 0), UNKNOWN);
            refuse("ahead(0, " + m + ")", x -> x.ahead(0, m), UNKNOWN);
            refuse("place(" + m + ", 0)", x -> x.place(m, 0), UNKNOWN);
        }
        for (int what : new int[] {-1, 2, LOWEST, HIGHEST}) {
            refuse("place(0, " + what + ")", x -> x.place(0, what), OUTSIDE);
        }
    }

    private static void refusedInTexts() {
        before = EdgesOfTermsTest::fillSome;
        for (int set : new int[] {-1, 32, LOWEST, HIGHEST}) {
            refuse("text(" + set + ", 0)", x -> x.text(set, 0), UNKNOWN);
            refuse("apart(" + set + ", 0)", x -> x.apart(set, 0), UNKNOWN);
            refuse("apart(0, " + set + ")", x -> x.apart(0, set), UNKNOWN);
        }
        refuse("text(2, 0)", x -> x.text(2, 0), NOT);
        refuse("apart(2, 0)", x -> x.apart(2, 0), NOT);
        refuse("apart(0, 2)", x -> x.apart(0, 2), NOT);
        for (int w : new int[] {-1, 100, LOWEST, HIGHEST}) {
            refuse("word(" + w + ", 0)", x -> x.word(w, 0), OUTSIDE);
        }
        for (int what : new int[] {-1, 5, LOWEST, HIGHEST}) {
            refuse("word(1, " + what + ")", x -> x.word(1, what), OUTSIDE);
        }
        for (int m : new int[] {-1, 5, LOWEST, HIGHEST}) {
            refuse("without(" + m + ", 0)", x -> x.without(m, 0), UNKNOWN);
        }
    }

    private static void refusedForCopies() {
        before = EdgesOfTermsTest::fillSome;
        for (int w : new int[] {-1, 100, LOWEST, HIGHEST}) {
            refuse("write(" + w + ")", x -> x.write(w), OUTSIDE);
        }
        for (int set : new int[] {-1, 32, LOWEST, HIGHEST}) {
            refuse("see(" + set + ")", x -> x.see(set), UNKNOWN);
        }
        refuse("see(2)", x -> x.see(2), NOT);
        for (int c : new int[] {-1, 2, 4, LOWEST, HIGHEST}) {
            refuse("times(" + c + ", 0)", x -> x.times(c, 0), UNKNOWN);
            refuse("when(" + c + ", 0)", x -> x.when(c, 0), UNKNOWN);
            refuse("nearest(" + c + ", 0)", x -> x.nearest(c, 0), UNKNOWN);
        }
        for (int what : new int[] {-1, 2, LOWEST, HIGHEST}) {
            refuse("when(0, " + what + ")", x -> x.when(0, what), OUTSIDE);
            refuse("nearest(0, " + what + ")", x -> x.nearest(0, what), OUTSIDE);
        }
    }

    private static void refusedForBars() {
        before = EdgesOfTermsTest::fillSome;
        for (int w : new int[] {-1, 100, LOWEST, HIGHEST}) {
            for (boolean is : new boolean[] {true, false}) {
                refuse("bar(" + w + ", 1, " + is + ")", x -> x.bar(w, 1, is), OUTSIDE);
                refuse("bar(1, " + w + ", " + is + ")", x -> x.bar(1, w, is), OUTSIDE);
            }
        }
        for (int set : new int[] {-1, 32, LOWEST, HIGHEST}) {
            refuse("breaks(" + set + ")", x -> x.breaks(set), UNKNOWN);
        }
        refuse("breaks(2)", x -> x.breaks(2), NOT);
    }

    private static void refusedWhenFull() {
        before = EdgesOfTermsTest::fillUp;
        refuse("a byte more", x -> x.feed(1, '1'), FULL);
        refuse("8 bytes more", x -> x.feed(8, Check.pack("1 2 3 4 ")), FULL);
        refuse("a word more", x -> x.write(1), FULL);
        refuse("a copy more", CrossedSheets::copy, FULL);
        refuse("a pair more", x -> x.bar(9, 9, true), FULL);
        before = EdgesOfTermsTest::fillNearly;
        refuse("4 bytes more, where 3 are left", x -> x.feed(4, Check.pack("5 6 ")), FULL);
        refuse("8 bytes more, where 3 are left", x -> x.feed(8, Check.pack("5 6 7 8 ")), FULL);
    }

    /** 397 bytes are told. */
    private static void fillNearly(CrossedSheets x) {
        fillSome(x);
        x.sheet();
        for (int k = 0; k < 49; k++) {
            x.feed(8, Check.pack("        "));
        }
        x.feed(5, Check.pack("    1"));
    }

    private static void refusedOnAnEmptySheet() {
        before = x -> { };
        refuse("mark(0, 0)", x -> x.mark(0, 0), UNKNOWN);
        refuse("ink(0, 1)", x -> x.ink(0, 1), UNKNOWN);
        refuse("next(1)", x -> x.next(1), UNKNOWN);
        refuse("ahead(0, 1)", x -> x.ahead(0, 1), UNKNOWN);
        refuse("place(0, 0)", x -> x.place(0, 0), UNKNOWN);
        refuse("text(1, 0)", x -> x.text(1, 0), UNKNOWN);
        refuse("apart(0, 1)", x -> x.apart(0, 1), UNKNOWN);
        refuse("without(0, 0)", x -> x.without(0, 0), UNKNOWN);
        refuse("see(1)", x -> x.see(1), UNKNOWN);
        refuse("times(0, 0)", x -> x.times(0, 0), UNKNOWN);
        refuse("when(0, 0)", x -> x.when(0, 0), UNKNOWN);
        refuse("nearest(0, 0)", x -> x.nearest(0, 0), UNKNOWN);
        refuse("breaks(1)", x -> x.breaks(1), UNKNOWN);
        refuse("drop() without copies", CrossedSheets::drop, NONE);
    }
}
