import java.util.List;
import java.util.function.Consumer;
import java.util.function.Function;
import java.util.function.ToLongFunction;

/**
 * Two objects with the same calls behind them, one of which is asked besides for something that it must refuse: by what
 * they answer then, call for call, they may not be told apart. Looks that change an object each have twins of their own.
 */
final class Twins {
    private static final int NONE = CrossedSheets.NONE;
    private static final List<Function<CrossedSheets, String>> LOOKS = List.of(
        Twins::sheet, Twins::inks, Twins::orders, Twins::texts, Twins::words, Twins::told, Twins::draft, Twins::copies,
        Twins::kept, Twins::bars);

    private Twins() {
    }

    static void refuse(Sentences sentences, String call, Consumer<CrossedSheets> before,
            ToLongFunction<CrossedSheets> refused, long want) {
        for (int k = 0; k < LOOKS.size(); k++) {
            CrossedSheets asked = made(before);
            if (k == 0) {
                sentences.due(call, refused.applyAsLong(asked), want);
            } else {
                refused.applyAsLong(asked);
            }
            String seen = LOOKS.get(k).apply(asked);
            sentences.due(call + " changes nothing, look " + k, seen, LOOKS.get(k).apply(made(before)));
        }
    }

    private static CrossedSheets made(Consumer<CrossedSheets> before) {
        CrossedSheets x = new CrossedSheets();
        before.accept(x);
        return x;
    }

    private static String sheet(CrossedSheets x) {
        StringBuilder s = new StringBuilder().append(x.fault()).append(Check.printed(x));
        for (int what = 0; what < 8; what++) {
            s.append(' ').append(x.count(what));
        }
        for (int m = 0; m < x.count(0); m++) {
            for (int what = 0; what < 6; what++) {
                s.append(' ').append(x.mark(m, what));
            }
        }
        return s.toString();
    }

    private static String inks(CrossedSheets x) {
        StringBuilder s = new StringBuilder();
        for (int a = 0; a < 4; a++) {
            for (int b = 0; b < 4; b++) {
                s.append(' ').append(x.earlier(a, b, false));
            }
        }
        for (int m = 0; m < x.count(0); m++) {
            s.append(' ').append(x.mark(m, 1)).append(' ').append(x.mark(m, 2));
        }
        return s.toString();
    }

    private static String orders(CrossedSheets x) {
        StringBuilder s = new StringBuilder().append(x.orders()).append(' ').append(Check.session(x));
        for (int i = 0; i < x.good(NONE); i++) {
            s.append(' ').append(x.good(i)).append('>').append(x.next(x.good(i)));
        }
        for (int i = 0; i < 3; i++) {
            s.append(' ').append(Check.order(x, i));
        }
        for (int m = 0; m < x.count(0); m++) {
            s.append(' ').append(x.place(m, 0)).append(x.place(m, 1)).append(' ').append(x.ahead(0, m));
        }
        return s.toString();
    }

    private static String texts(CrossedSheets x) {
        StringBuilder s = new StringBuilder().append(x.idle()).append(' ').append(x.view(NONE));
        int goods = Math.min(12, x.good(NONE));
        for (int i = 0; i < goods; i++) {
            s.append(',').append(Check.text(x, x.good(i))).append('~').append(x.apart(0, x.good(i)));
        }
        return s.toString();
    }

    private static String words(CrossedSheets x) {
        StringBuilder s = new StringBuilder();
        for (int w = 0; w < 10; w++) {
            for (int what = 0; what < 5; what++) {
                s.append(' ').append(x.word(w, what));
            }
        }
        for (int m = 0; m < x.count(0); m++) {
            s.append(' ').append(x.without(m, NONE)).append(' ').append(x.without(m, 1));
        }
        return s.toString();
    }

    /** What is told, by making it the sheet. */
    private static String told(CrossedSheets x) {
        return x.count(2) + " " + x.sheet() + " " + x.fault() + " " + x.count(2) + " " + Check.printed(x);
    }

    /** The words of the draft, by what is left when one or two of them are on the sheet. */
    private static String draft(CrossedSheets x) {
        StringBuilder s = new StringBuilder().append(x.count(3));
        x.sheet();
        if (x.count(4) == 4) {
            x.drop();
        }
        int c = x.copy();
        for (int v = 0; v < 10; v++) {
            for (int w = v == 9 ? 0 : 5; w < 10; w++) {
                x.feed(3, Check.pack(v + " " + w));
                x.sheet();
                s.append(' ').append(x.nearest(c, 0));
            }
        }
        return s.toString();
    }

    private static String copies(CrossedSheets x) {
        StringBuilder s = new StringBuilder().append(x.holds());
        for (int c = 0; c < x.count(4); c++) {
            s.append(' ').append(x.times(c, NONE)).append(' ').append(x.times(c, 0)).append(' ').append(x.times(c, 1));
            s.append(' ').append(x.when(c, 0)).append(' ').append(x.when(c, 1));
            s.append(' ').append(x.nearest(c, 0)).append(' ').append(x.nearest(c, 1));
        }
        return s.toString();
    }

    /** The words of the copies, and how many each had when it is gone. */
    private static String kept(CrossedSheets x) {
        StringBuilder s = new StringBuilder();
        x.sheet();
        for (int w = 0; w < 10; w++) {
            x.feed(1, '0' + w);
            x.sheet();
            for (int c = 0; c < x.count(4); c++) {
                s.append(' ').append(x.nearest(c, 0));
            }
        }
        for (int k = 0; k < 5; k++) {
            s.append(' ').append(x.drop());
        }
        return s.toString();
    }

    private static String bars(CrossedSheets x) {
        StringBuilder s = new StringBuilder().append(x.clean()).append(' ').append(x.least());
        for (int i = 0; i < Math.min(20, x.good(NONE)); i++) {
            s.append(' ').append(x.breaks(x.good(i)));
        }
        for (int v = 0; v < 10; v++) {
            for (int w = 0; w < 10; w++) {
                s.append(x.bar(v, w, false));
            }
        }
        return s.append(' ').append(x.count(5)).toString();
    }
}
