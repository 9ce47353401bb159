/** Counts the calls whose answer is not the one that is due, and has short ways to tell sheets. */
final class Check {
    private final String name;
    private int calls;
    private int wrong;

    Check(String name) {
        this.name = name;
    }

    void due(String call, long got, long want) {
        calls++;
        if (got != want) {
            wrong++;
            if (wrong <= 50) {
                System.out.println(name + ": " + call + " answered " + got + ", due is " + want);
            }
        }
    }

    void due(String call, String got, String want) {
        calls++;
        if (!got.equals(want)) {
            wrong++;
            if (wrong <= 50) {
                System.out.println(name + ": " + call + " answered '" + got + "', due is '" + want + "'");
            }
        }
    }

    void end() {
        System.out.println(name + ": " + calls + " answers, " + wrong + " not as due");
        if (wrong != 0) {
            System.exit(1);
        }
    }

    static void feed(CrossedSheets x, String told) {
        for (int at = 0; at < told.length(); at += 8) {
            int end = Math.min(told.length(), at + 8);
            x.feed(end - at, pack(told.substring(at, end)));
        }
    }

    static long pack(String bytes) {
        long packed = 0;
        for (int k = 0; k < bytes.length(); k++) {
            packed = packed << 8 | bytes.charAt(k);
        }
        return packed;
    }

    static CrossedSheets on(String told) {
        CrossedSheets x = new CrossedSheets();
        feed(x, told);
        int marks = x.sheet();
        if (marks < 0) {
            throw new IllegalStateException(told + " has fault " + marks + " at " + x.fault());
        }
        return x;
    }

    static String printed(CrossedSheets x) {
        StringBuilder s = new StringBuilder();
        for (int i = 0; i < x.print(CrossedSheets.NONE); i++) {
            s.append((char) x.print(i));
        }
        return s.toString();
    }

    static String text(CrossedSheets x, int set) {
        StringBuilder s = new StringBuilder();
        for (int i = 0; i < x.text(set, CrossedSheets.NONE); i++) {
            s.append(i == 0 ? "" : " ").append(x.text(set, i));
        }
        return s.toString();
    }

    static String order(CrossedSheets x, long i) {
        StringBuilder s = new StringBuilder();
        for (int j = 0; j < x.count(0); j++) {
            s.append(x.order(i, j));
        }
        return s.toString();
    }

    static String marks(CrossedSheets x, int what) {
        StringBuilder s = new StringBuilder();
        for (int m = 0; m < x.count(0); m++) {
            s.append(m == 0 ? "" : " ").append(x.mark(m, what));
        }
        return s.toString();
    }

    static String session(CrossedSheets x) {
        StringBuilder s = new StringBuilder();
        for (int j = 0; j < x.count(0); j++) {
            s.append(x.session(j));
        }
        return s.toString();
    }

    /** Tells a sheet that has a fault, or none: the number of the fault and its place. */
    static String fault(CrossedSheets x, String told) {
        feed(x, told);
        int answer = x.sheet();
        return (answer < 0 ? -10 - answer : 0) + "@" + x.fault();
    }
}
