import java.util.ArrayList;
import java.util.Collections;
import java.util.List;
import java.util.Random;

/** Makes texts of sheets, most of them without a fault, from a seed. */
final class RandomSheets {
    private static final String SIGNS = "{}[]<>()*/!: 0123456789 x\t";

    private final Random random;
    private final List<Integer> marks = new ArrayList<>();
    private final List<Integer> moved = new ArrayList<>();
    private final List<String> tokens = new ArrayList<>();
    private final List<Integer> gaps = new ArrayList<>();
    private int wordRange;
    private boolean deep;

    RandomSheets(Random random) {
        this.random = random;
    }

    /** With that many marks, and up to so many words behind the last of them. */
    String make(int number, int mostWords) {
        marks.clear();
        moved.clear();
        tokens.clear();
        gaps.clear();
        for (int m = 0; m < number; m++) {
            marks.add(m);
        }
        Collections.shuffle(marks, random);
        deep = random.nextInt(4) == 0;
        wordRange = random.nextInt(4) == 0 ? 100 : 2 + random.nextInt(8);
        while (!marks.isEmpty()) {
            items(1 + random.nextInt(3), 0, false);
        }
        items(random.nextInt(mostWords + 1), 0, false);
        gaps.add(tokens.size());
        for (int m : moved) {
            putStar(m);
        }
        return join();
    }

    /** One sign put in, left out or changed. */
    String spoil(String text) {
        StringBuilder s = new StringBuilder(text);
        int times = 1 + random.nextInt(2);
        for (int k = 0; k < times; k++) {
            int at = random.nextInt(s.length() + 1);
            char sign = SIGNS.charAt(random.nextInt(SIGNS.length()));
            int way = random.nextInt(3);
            if (way == 0) {
                s.insert(at, sign);
            } else if (at < s.length()) {
                if (way == 1) {
                    s.deleteCharAt(at);
                } else {
                    s.setCharAt(at, sign);
                }
            }
        }
        return s.substring(0, Math.min(400, s.length()));
    }

    private void items(int number, int depth, boolean inArrow) {
        for (int k = 0; k < number; k++) {
            if (!inArrow) {
                gaps.add(tokens.size());
            }
            item(depth, inArrow);
        }
    }

    private void item(int depth, boolean inArrow) {
        int way = deep && depth < 9 ? 2 + random.nextInt(5) : random.nextInt(8);
        if (marks.isEmpty() || way < 2 || depth > 8 && way < 7) {
            word();
        } else if (way == 7) {
            tokens.add("(");
            word();
            int overs = 1 + random.nextInt(3);
            for (int k = 0; k < overs && (k == 0 || !marks.isEmpty()); k++) {
                tokens.add("/");
                mark();
                word();
            }
            tokens.add(")");
        } else {
            String kind = way < 4 ? "{}" : way < 6 ? "[]" : "<>";
            tokens.add(kind.substring(0, 1));
            int m = mark();
            if (way == 6) {
                moved.add(m);
            }
            if (kind.equals("[]") && !marks.isEmpty() && random.nextBoolean()) {
                tokens.add("!");
                mark();
            }
            tokens.add(":");
            items(1 + random.nextInt(3), depth + 1, inArrow || way == 6);
            tokens.add(kind.substring(1));
        }
    }

    private int mark() {
        int m = marks.remove(marks.size() - 1);
        tokens.add((random.nextInt(9) == 0 ? "0" : "") + m);
        return m;
    }

    private void word() {
        int w = random.nextInt(wordRange);
        tokens.add((w < 10 && random.nextInt(9) == 0 ? "0" : "") + w);
    }

    private void putStar(int m) {
        int k = random.nextInt(gaps.size());
        int at = gaps.get(k);
        tokens.add(at, "*" + (random.nextInt(9) == 0 ? " " : "") + m);
        for (int g = 0; g < gaps.size(); g++) {
            if (gaps.get(g) > at || gaps.get(g) == at && g > k) {
                gaps.set(g, gaps.get(g) + 1);
            }
        }
    }

    private String join() {
        StringBuilder s = new StringBuilder();
        boolean blanks = random.nextInt(3) == 0;
        for (String token : tokens) {
            boolean between = s.length() > 0 && Character.isDigit(s.charAt(s.length() - 1))
                && Character.isDigit(token.charAt(0));
            if (between || blanks && random.nextInt(6) == 0) {
                s.append(' ');
            }
            s.append(token);
        }
        return s.substring(0, Math.min(400, s.length()));
    }
}
