import java.lang.management.ManagementFactory;
import java.util.Random;

/**
 * What runs of 512 calls make stays far under the one room that all calls of a run live in (7.3 million fields and
 * elements), and no call throws, whatever it is given.
 */
public final class RoomTest {
    private static final int CALLS = 512;
    // The class makes no rows of anything smaller than an int, so these bytes are at most 500,000 elements.
    private static final long MOST_BYTES = 2_000_000L;
    private static final int[] ODD = {
        Integer.MIN_VALUE, Integer.MIN_VALUE + 1, -2, -1, 0, 1, 2, 3, 4, 7, 8, 20, 21, 64, 255, 256,
        Integer.MAX_VALUE - 1, Integer.MAX_VALUE};
    private static int wrong = 0;

    private static long allocated() {
        var threads = (com.sun.management.ThreadMXBean) ManagementFactory.getThreadMXBean();
        return threads.getCurrentThreadAllocatedBytes();
    }

    private static void small(String what, long before) {
        long bytes = allocated() - before;
        System.out.println(what + ": " + bytes + " bytes");
        if (bytes > MOST_BYTES) {
            wrong++;
            System.out.println(what + " made too much");
        }
    }

    private static SumsThatTell full() {
        SumsThatTell x = new SumsThatTell();
        for (int p = 0; p < 6; p++) {
            x.person(p % 4, 0, 3, 1 + p % 2);
        }
        for (int w = 0; w < 8; w++) {
            x.wish(w % 4, 255 >> w % 3, 1);
        }
        return x;
    }

    private static void dearCalls() {
        for (int kind = 0; kind < 6; kind++) {
            long before = allocated();
            SumsThatTell x = full();
            for (int i = 0; i < CALLS - 14; i++) {
                switch (kind) {
                    case 0 -> x.most(i % 4);
                    case 1 -> x.together(i % 4, 255);
                    case 2 -> x.ask(i % 4, i / 4 % 4, i, 1);
                    case 3 -> x.knows(i % 4, i % 10, i % 4);
                    case 4 -> x.image(i % 3);
                    default -> x.again(i % 3);
                }
            }
            small("dear calls of kind " + kind, before);
        }
    }

    /** Images of small and large objects, and growing again and again from a small one. */
    private static void growing() {
        long before = allocated();
        SumsThatTell x = new SumsThatTell();
        x.image(0);
        for (int i = 0; i < CALLS / 8; i++) {
            x.again(0);
            x.person(0, 0, 15, 1);
            x.most(0);
            x.person(0, 0, 15, 1);
            x.most(1);
            x.person(0, 0, 15, 1);
            x.wish(0, 7, 1);
            x.most(2);
        }
        small("growing", before);
    }

    private static void newObjects() {
        long before = allocated();
        for (int i = 0; i < CALLS; i++) {
            new SumsThatTell().count(0);
        }
        long bytes = allocated() - before;
        System.out.println("new objects: " + bytes + " bytes");
        if (bytes > 4 * 7_300_000L) {
            wrong++;
            System.out.println("new objects make too much");
        }
    }

    private static int odd(Random random) {
        return random.nextInt(3) == 0 ? ODD[random.nextInt(ODD.length)] : random.nextInt(9);
    }

    private static void oneCall(SumsThatTell x, Random random) {
        int a = odd(random);
        int b = odd(random);
        int c = odd(random);
        int d = odd(random);
        switch (random.nextInt(18)) {
            case 0 -> x.person(a, b, c, d);
            case 1 -> x.person(a & 1, 0, c & 1, 1);
            case 2 -> x.change(a, b);
            case 3 -> x.ask(a, b, c, d);
            case 4 -> x.would(a, b, c, d);
            case 5 -> x.join(a, b);
            case 6 -> x.knows(a, b, c);
            case 7 -> x.tables(a);
            case 8 -> x.broken(a);
            case 9 -> x.tell(a, b);
            case 10 -> x.asked(a, b);
            case 11 -> x.wish(a, b, c);
            case 12 -> x.clear();
            case 13 -> x.most(a);
            case 14 -> x.together(a, b);
            case 15 -> x.count(a);
            case 16 -> x.image(a);
            default -> x.again(a);
        }
    }

    private static void oddCalls() {
        for (int seed = 0; seed < 300; seed++) {
            Random random = new Random(seed);
            SumsThatTell x = seed % 2 == 0 ? new SumsThatTell() : full();
            for (int i = 0; i < 2 * CALLS; i++) {
                try {
                    oneCall(x, random);
                } catch (RuntimeException | Error thrown) {
                    wrong++;
                    System.out.println("run " + seed + ", call " + i + " threw " + thrown);
                    return;
                }
            }
        }
    }

    public static void main(String[] args) {
        full().most(0);
        dearCalls();
        growing();
        newObjects();
        oddCalls();
        System.out.println(wrong == 0 ? "room is kept and nothing is thrown" : wrong + " runs are not as due");
        if (wrong != 0) {
            System.exit(1);
        }
    }
}
