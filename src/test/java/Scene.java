import java.util.function.IntToLongFunction;

/** Objects that several tests begin with, and what is done to them again and again. */
final class Scene {
    static final int MIN = Integer.MIN_VALUE, MAX = Integer.MAX_VALUE;

    private Scene() {
    }

    /** Some plain stories that all are worth 1. */
    static NotTwice stories(int n) {
        NotTwice x = new NotTwice();
        for (int i = 0; i < n; i++) {
            x.story(0, 1, 0);
        }
        return x;
    }

    /** Some plain stories, and people of 40 in house 0, of whom each can tell what its bits say. */
    static NotTwice house(int stories, int... tells) {
        NotTwice x = stories(stories);
        sit(x, 0, tells);
        return x;
    }

    static void sit(NotTwice x, int house, int... tells) {
        for (int bits : tells) {
            x.person(100 * house + 40, bits);
        }
    }

    static void nights(NotTwice x, int n) {
        for (int i = 0; i < n; i++) {
            x.pass();
        }
    }

    /** A sheet becomes a row of these. */
    static void row(NotTwice x, int sheet, int sort, int... items) {
        x.sheet(sheet, sort, items.length);
        for (int i = 0; i < items.length; i++) {
            x.cell(sheet, i, items[i]);
        }
    }

    /** Both ends of a range are taken; what stands just outside and far outside is refused. */
    static void range(String call, int from, int to, long refusal, IntToLongFunction of) {
        for (int v : new int[] {MIN, from - 1, to + 1, MAX}) {
            Due.is(call + ", " + v, of.applyAsLong(v), refusal);
        }
        for (int v : new int[] {from, to}) {
            Due.holds(call + ", " + v + " is taken", of.applyAsLong(v) != refusal);
        }
    }
}
