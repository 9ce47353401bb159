import java.util.Random;

/** Calls with any arguments on sheets with up to ten marks: none throws, and all that is answered has its bounds. */
final class AnyArgumentsTest {
    private static final int MOST_CALLS = 512;
    private static final Check CHECK = new Check("AnyArguments");

    private final Random random;
    private final RandomSheets sheets;
    private final CrossedSheets x = new CrossedSheets();
    private int calls;

    private AnyArgumentsTest(long seed) {
        random = new Random(seed);
        sheets = new RandomSheets(random);
    }

    public static void main(String[] args) {
        for (int k = 0; k < 600; k++) {
            new AnyArgumentsTest(k).run();
        }
        CHECK.end();
    }

    private void run() {
        tell();
        while (calls < MOST_CALLS) {
            if (random.nextInt(60) == 0 && calls < MOST_CALLS - 60) {
                tell();
            }
            int call = random.nextInt(33);
            int a = number();
            int b = number();
            calls++;
            long answer = any(call, a, b, random.nextBoolean());
            boolean isRefusal = answer == -1001 || answer == -1002 || answer == -1003 || answer == -1004;
            CHECK.due("call " + call + " with " + a + ", " + b + " answered " + answer + ": within its bounds",
                isRefusal || answer >= CrossedSheets.NONE ? 1 : 0, 1);
        }
    }

    /** What may have been fed before is read, most often with a fault, so that nothing is told ahead of the text. */
    private void tell() {
        String text = sheets.make(7 + random.nextInt(4), 20);
        for (int k = 0; k < 20 && PlainSheets.faultOf(text) != CrossedSheets.NONE; k++) {
            text = sheets.make(7 + random.nextInt(4), 20);
        }
        x.sheet();
        Check.feed(x, text);
        x.sheet();
        calls += (text.length() + 7) / 8 + 2;
    }

    private int number() {
        switch (random.nextInt(6)) {
            case 0: return random.nextInt();
            case 1: return random.nextInt(1024);
            case 2: return Integer.MIN_VALUE + random.nextInt(2);
            case 3: return Integer.MAX_VALUE - random.nextInt(2);
            default: return random.nextInt(14) - 2;
        }
    }

    private long any(int call, int a, int b, boolean is) {
        switch (call) {
            case 0: return x.feed(a, random.nextLong());
            case 1: return x.feed(1 + (b & 7), random.nextLong());
            case 2: return x.fault();
            case 3: return x.print(a);
            case 4: return x.mark(a, b);
            case 5: return x.ink(a, b);
            case 6: return x.earlier(a, b, is);
            case 7: return x.count(a);
            case 8: return x.good(a);
            case 9: return x.next(a);
            case 10: return x.orders();
            case 11: return x.order(is ? random.nextLong() : a, b);
            case 12: return x.ahead(a, b);
            case 13: return x.place(a, b);
            case 14: return x.session(a);
            case 15: return x.text(a, b);
            case 16: return x.view(a);
            case 17: return x.word(a, b);
            case 18: return x.idle();
            case 19: return x.apart(a, b);
            case 20: return x.without(a, b);
            case 21: return x.write(a);
            case 22: return x.see(a);
            case 23: return x.copy();
            case 24: return x.drop();
            case 25: return x.times(a, b);
            case 26: return x.holds();
            case 27: return x.when(a, b);
            case 28: return x.nearest(a, b);
            case 29: return x.bar(a, b, is);
            case 30: return x.breaks(a);
            case 31: return x.clean();
            default: return x.least();
        }
    }
}
