import java.util.Random;

/** Drawn runs of calls, each answered by the class and by the model; the seeds are fixed. */
public final class ModelTest {
    private static final int RUNS = 1500;
    private static final int CALLS = 512;
    private static final String[] WORDS = {"age", "worth", "heard", "many", "night", "own"};
    private static final String[] SCRAPS = {"(", ")", ";", "+", "-", "*", "<", "=", "or", "and", "not",
        "likes", "pays", "tires", "12345", "9999", "0", " ", "\n", "\t", "A", "agee", "\u00e9"};

    private final Random random;
    private final NotTwice x = new NotTwice();
    private final Model m = new Model();
    private final StringBuilder log = new StringBuilder();
    private final boolean wild;
    private final int crowd;
    private int calls = 0;

    private ModelTest(int seed) {
        random = new Random(seed);
        wild = seed % 5 == 0;
        crowd = 2 + random.nextInt(7);
    }

    public static void main(String[] args) {
        for (int seed = 0; seed < RUNS; seed++) {
            new ModelTest(seed).run(seed);
        }
        Due.close("ModelTest");
    }

    private void run(int seed) {
        if (!wild) {
            fill();
        }
        while (calls < CALLS) {
            if (!step()) {
                System.out.println("seed " + seed + ": " + log);
                return;
            }
        }
    }

    /** Most runs start with some stories and people, so that something may be told. */
    private void fill() {
        int stories = 2 + random.nextInt(7);
        for (int i = 0; i < stories; i++) {
            call(0, random.nextInt(6), random.nextInt(10), random.nextInt(10), 0, 0);
        }
        for (int i = 0; i < crowd; i++) {
            call(2, 100 * random.nextInt(random.nextInt(4) + 1) + random.nextInt(100), random.nextInt(256), 0, 0, 0);
        }
    }

    private int pick(int from, int to) {
        if (random.nextInt(wild ? 8 : 40) == 0) {
            int[] odd = {from - 1, to + 1, -1, Integer.MIN_VALUE, Integer.MAX_VALUE, 255, 256, 8, 100};
            return odd[random.nextInt(odd.length)];
        }
        return from + random.nextInt(to - from + 1);
    }

    private int story() {
        return pick(0, Math.max(0, m.stories.size() - 1));
    }

    private int person() {
        return pick(0, Math.max(0, m.people.size() - 1));
    }

    private boolean step() {
        int what = random.nextInt(40);
        switch (what) {
            case 0: return call(0, pick(0, 5), pick(0, 9), pick(0, 9), 0, 0);
            case 1: return call(1, story(), story(), 0, 0, 0);
            case 2: return random.nextInt(9 - crowd) == 0 || call(2, pick(0, 399), pick(0, 255), 0, 0, 0);
            case 3: return set();
            case 4: return call(4, person(), story(), pick(0, 1), 0, 0);
            case 5: return call(5, story(), pick(0, 5), pick(0, 99), 0, 0);
            case 6: case 34: return call(6, person(), pick(0, 4), 0, 0, 0);
            case 7: return call(7, pick(0, 255), 0, 0, 0, 0);
            case 8: return text();
            case 9: return call(9, pick(0, m.texts.size() - 1), 0, 0, 0, 0);
            case 10: case 11: case 35: case 36: return call(10, pick(0, 3), 0, 0, 0, 0);
            case 12: return call(11, pick(0, 3), story(), 0, 0, 0);
            case 13: return call(12, pick(0, 3), story(), 0, 0, 0);
            case 14: return call(13, pick(0, 3), pick(0, 1), 0, 0, 0);
            case 15: case 37: case 38: return call(14, pick(0, 3), story(), 0, 0, 0);
            case 16: case 39: return passes();
            case 17: return call(16, pick(0, 3), pick(0, 1), 0, 0, 0);
            case 18: return random.nextInt(30) != 0 || call(17, pick(1, 4), random.nextBoolean() ? -1 : person(), 0, 0, 0);
            case 19: return call(18, pick(0, 3), 0, 0, 0, 0);
            case 20: return call(19, person(), pick(0, 1), 0, 0, 0);
            case 21: return call(20, pick(0, 3), pick(0, 99), pick(0, 255), 0, 0);
            case 22: return call(21, 0, 0, 0, 0, 0);
            case 23: return judged();
            case 24: return random.nextInt(4) != 0 || call(23, random.nextInt(), pick(0, 40), 0, 0, 0);
            case 25: return call(24, 0, 0, 0, 0, 0);
            case 26: return call(25, 0, 0, 0, 0, 0);
            case 27: return call(26, pick(0, 5), 0, 0, 0, 0);
            case 28: return call(27, pick(0, 3), pick(-1, 2), pick(0, 40), 0, 0);
            case 29: case 30: return call(28, pick(0, 3), pick(0, 12), random.nextInt(500) - 50, 0, 0);
            case 31: return call(29, pick(0, 3), pick(0, 9), pick(0, 3), pick(0, 9), pick(-1, 9));
            case 32: return random.nextInt(9 - crowd) == 0 || call(30, pick(0, 3), pick(0, 2), pick(0, 9), pick(0, 3), 0);
            default: return call(31, story(), pick(0, 5), 0, 0, 0);
        }
    }

    private boolean set() {
        int what = pick(0, 2);
        return call(3, what, person(), pick(0, what == 0 ? 3 : what == 1 ? 99 : 255), 0, 0);
    }

    private boolean passes() {
        boolean same = true;
        for (int i = random.nextInt(12); i >= 0 && same; i--) {
            same = call(15, 0, 0, 0, 0, 0);
        }
        return same;
    }

    /** Rows that mostly may be told, so that the judging gets beyond the first. */
    private boolean judged() {
        int sheet = random.nextInt(4);
        int rows = random.nextInt(4);
        boolean same = call(27, sheet, random.nextInt(3), 2 * rows + (random.nextInt(9) == 0 ? 1 : 0), 0, 0);
        for (int i = 0; i < rows && same; i++) {
            same = call(28, sheet, 2 * i, pick(0, 3), 0, 0) && call(28, sheet, 2 * i + 1, story(), 0, 0);
        }
        return same && call(22, sheet, 0, 0, 0, 0);
    }

    private boolean text() {
        if (random.nextInt(6) != 0) {
            return true;
        }
        String t = "likes " + e(random.nextInt(4)) + ";pays " + e(random.nextInt(3)) + ";tires "
                + (random.nextInt(3) == 0 ? e(random.nextInt(3)) : e(0) + "<" + e(0)) + ";";
        for (int i = random.nextInt(3); i > 0; i--) {
            int at = random.nextInt(t.length() + 1);
            int to = Math.min(t.length(), at + random.nextInt(3));
            t = t.substring(0, at) + SCRAPS[random.nextInt(SCRAPS.length)] + t.substring(to);
        }
        boolean same = true;
        for (int i = 0; i < t.length() && same; i++) {
            same = call(7, t.charAt(i), 0, 0, 0, 0);
        }
        same = same && call(8, 0, 0, 0, 0, 0);
        return same && call(9, m.texts.size() - 1, 0, 0, 0, 0);
    }

    private String e(int depth) {
        if (depth == 0) {
            return random.nextInt(3) == 0 ? "" + random.nextInt(random.nextInt(3) == 0 ? 10000 : 12)
                    : WORDS[random.nextInt(WORDS.length)];
        }
        String a = e(depth - 1);
        switch (random.nextInt(11)) {
            case 0: return a + " or " + e(depth - 1);
            case 1: return a + " and " + e(depth - 1);
            case 2: return "not " + a;
            case 3: return a + "<" + e(0);
            case 4: return a + "=" + e(0);
            case 5: return a + "+" + e(depth - 1);
            case 6: return a + "-" + e(depth - 1);
            case 7: return a + "*" + e(depth - 1);
            case 8: return "-" + a;
            default: return "(" + a + ")";
        }
    }

    private boolean call(int which, int a, int b, int c, int d, int e) {
        calls++;
        String told = which + "(" + a + ", " + b + ", " + c + ", " + d + ", " + e + ") ";
        log.append(told);
        long got = Ask.of(x, which, a, b, c, d, e);
        long want = due(which, a, b, c, d, e);
        Due.is(told, got, want);
        return got == want;
    }

    private long due(int which, int a, int b, int c, int d, int e) {
        switch (which) {
            case 0: return m.story(a, b, c);
            case 1: return m.twin(a, b);
            case 2: return m.person(a, b);
            case 3: return m.set(a, b, c);
            case 4: return m.hears(a, b, c);
            case 5: return m.told(a, b, c);
            case 6: return m.one(a, b);
            case 7: return m.feed(a);
            case 8: return m.text();
            case 9: return m.force(a);
            case 10: return m.may(a);
            case 11: return m.by(a, b);
            case 12: return m.worth(a, b);
            case 13: return m.most(a, b);
            case 14: return m.tell(a, b);
            case 15: return m.pass();
            case 16: return m.goesOn(a, b);
            case 17: return m.spread(a, b);
            case 18: return m.keepAway(a);
            case 19: return m.send(a, b);
            case 20: return m.stranger(a, b, c);
            case 21: return m.left();
            case 22: return m.judge(a);
            case 23: return m.drawn(a, b);
            case 24: return m.image();
            case 25: return m.back();
            case 26: return m.count(a);
            case 27: return m.sheet(a, b, c);
            case 28: return m.cell(a, b, c);
            case 29: return m.copy(a, b, c, d, e);
            case 30: return m.people(a, b, c, d);
            default: return m.taken(a, b);
        }
    }
}
