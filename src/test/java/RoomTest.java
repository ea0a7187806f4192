import java.lang.management.ManagementFactory;
import java.util.Random;

/** Whatever is asked in whatever state, a call answers; and calls make next to nothing new. */
public final class RoomTest {
    private static final int[] ODD = {Integer.MIN_VALUE, Integer.MIN_VALUE + 1, -100, -2, -1, 0, 1, 2, 3, 4, 5, 7, 8,
        9, 31, 32, 39, 40, 41, 99, 100, 159, 160, 255, 256, 399, 400, 4096, Integer.MAX_VALUE - 1, Integer.MAX_VALUE};
    private static final String DEAR =
            "likes worth*(age+1)*(heard+1)-night+many*own;pays 0-many*night;tires own*own*heard<0 or(0 and age);";
    /** Bytes for all calls of one object: the document's room is far larger. */
    private static final long BYTES = 200_000;

    private final NotTwice x = new NotTwice();
    private final Random random;

    private RoomTest(int seed) {
        random = new Random(seed);
    }

    public static void main(String[] args) {
        for (int seed = 0; seed < 400; seed++) {
            new RoomTest(seed).everything();
        }
        dearest();
        Due.close("RoomTest");
    }

    private int any() {
        return random.nextInt(3) == 0 ? ODD[random.nextInt(ODD.length)] : random.nextInt(9);
    }

    /** Far more calls than an object is used for, each with anything. */
    private void everything() {
        for (int i = 0; i < 2000; i++) {
            int a = any();
            int b = any();
            int c = any();
            try {
                Ask.of(x, random.nextInt(Ask.CALLS), a, b, c, any(), any());
                if (random.nextInt(32) == 0) {
                    Due.read(x, random.nextInt(20) == 0 ? DEAR : "likes (((((1)))))");
                }
            } catch (RuntimeException | StackOverflowError e) {
                Due.holds("a call answers (" + a + ", " + b + ", " + c + "): " + e, false);
            }
        }
        Due.holds("the night has an end", x.count(2) <= 999);
    }

    private static void dearest() {
        NotTwice x = new NotTwice();
        for (int s = 0; s < 8; s++) {
            x.story(s % 6, s, 9 - s);
        }
        for (int p = 0; p < 6; p++) {
            x.person(p, 255);
        }
        Due.rule(x, DEAR);
        com.sun.management.ThreadMXBean bean = (com.sun.management.ThreadMXBean) ManagementFactory.getThreadMXBean();
        x.drawn(1, 1);
        long before = bean.getCurrentThreadAllocatedBytes();
        for (int i = 0; i < 64; i++) {
            x.drawn(i, 40);
            x.spread(4, -1);
            x.goesOn(0, 1);
            x.keepAway(0);
            x.send(0, 1);
            x.stranger(0, 1, 255);
            x.sheet(0, 2, 40);
            x.judge(0);
        }
        long made = bean.getCurrentThreadAllocatedBytes() - before;
        Due.holds("512 calls make little that is new: " + made + " bytes", made < BYTES);
    }
}
