import java.lang.management.ManagementFactory;
import java.util.ArrayList;
import java.util.List;
import java.util.Random;
import java.util.TreeMap;
import java.util.function.Consumer;

/**
 * What a run makes is made with its object, and is far under the one room that all calls of a run live in (7.3 million
 * fields and elements); no call makes anything, and no call throws, whatever it is given.
 */
public final class RoomTest {
    private static final int CALLS = 512;
    // The class makes hardly a row of anything smaller than an int, so these bytes are some 50,000 elements at most.
    private static final long MOST_BYTES = 200_000L;
    // What the machine itself may make beside the calls: far less than one row for the tables of these runs.
    private static final long SLACK_BYTES = 1_000L;
    private static final com.sun.management.ThreadMXBean THREADS =
        (com.sun.management.ThreadMXBean) ManagementFactory.getThreadMXBean();
    private static final int[] ODD = {
        Integer.MIN_VALUE, Integer.MIN_VALUE + 1, -2, -1, 0, 1, 2, 3, 4, 7, 8, 20, 21, 64, 255, 256,
        Integer.MAX_VALUE - 1, Integer.MAX_VALUE};
    private static int wrong = 0;

    private static long allocated() {
        return THREADS.getCurrentThreadAllocatedBytes();
    }

    /** The calls are made twice, as what the machine makes when it meets a line of code first is not the class's. */
    private static void makesNothing(String what, Consumer<SumsThatTell> calls) {
        calls.accept(new SumsThatTell());
        SumsThatTell x = new SumsThatTell();
        long before = allocated();
        calls.accept(x);
        long bytes = allocated() - before;
        if (bytes > SLACK_BYTES) {
            wrong++;
            System.out.println(what + " made " + bytes + " bytes");
        }
    }

    private static void newObject() {
        new SumsThatTell();
        long before = allocated();
        new SumsThatTell();
        long bytes = allocated() - before;
        System.out.println("a new object: " + bytes + " bytes");
        if (bytes > MOST_BYTES) {
            wrong++;
            System.out.println("a new object makes too much");
        }
    }

    private static void fill(SumsThatTell x) {
        for (int p = 0; p < 6; p++) {
            x.person(p % 4, 0, 3, 1 + p % 2);
        }
        for (int w = 0; w < 8; w++) {
            x.wish(w % 4, 255 >> w % 3, 1);
        }
    }

    private static void dearCalls(SumsThatTell x, int kind) {
        x.image(0);
        fill(x);
        for (int i = 0; i < CALLS - 15; i++) {
            switch (kind) {
                case 0 -> x.most(i % 4);
                case 1 -> x.together(i % 4, 255);
                case 2 -> x.ask(i % 4, i / 4 % 4, i, 1);
                case 3 -> x.knows(i % 4, i % 10, i % 4);
                case 4 -> x.image(i % 3);
                default -> x.again(i % 3);
            }
        }
    }

    /** Images of small and large objects, and growing again and again from a small one. */
    private static void growing(SumsThatTell x) {
        x.image(0);
        for (int i = 0; i < CALLS / 8; i++) {
            x.again(0);
            x.person(0, 0, 15, 1);
            x.most(0);
            x.person(0, 0, 15, 1);
            x.most(1);
            x.person(0, 0, 15, 1);
            x.wish(0, 7, 1);
            x.most(2);
        }
    }

    /** For each number of tables that three people can make, how many values each of them has, in rising order. */
    private static List<int[]> allSizes() {
        TreeMap<Integer, int[]> sizes = new TreeMap<>();
        for (int a = 1; a <= 21; a++) {
            for (int b = a; b <= 21; b++) {
                for (int c = b; c <= 21 && a * b * c <= 4096; c++) {
                    sizes.put(a * b * c, new int[] {a, b, c});
                }
            }
        }
        return new ArrayList<>(sizes.values());
    }

    /** Each time a few more tables than there ever were, always from the same image without people. */
    private static void slowlyGrowing(SumsThatTell x, List<int[]> sizes, int rounds, int kind) {
        x.image(0);
        for (int i = sizes.size() - rounds; i < sizes.size(); i++) {
            x.again(0);
            for (int values : sizes.get(i)) {
                x.person(0, 0, values - 1, 1);
            }
            switch (kind) {
                case 0 -> x.most(0);
                case 1 -> x.ask(0, 0, 7, 1);
                case 2 -> x.would(0, 0, 7, 1);
                case 3 -> x.knows(0, 0, 0);
                case 4 -> x.broken(0);
                default -> {
                    x.wish(0, 7, 1);
                    x.together(0, 1);
                }
            }
        }
    }

    private static void slowlyGrowing() {
        List<int[]> sizes = allSizes();
        int last = sizes.size() - 1;
        int[] first = sizes.get(sizes.size() - 102);
        SumsThatTell x = new SumsThatTell();
        slowlyGrowing(x, sizes, 1, 0);
        if (first[0] * first[1] * first[2] != 2873 || x.count(2) != 4096 || sizes.get(last)[0] != 16) {
            wrong++;
            System.out.println("the slowly growing run is not the one that was meant");
        }
        for (int kind = 0; kind < 6; kind++) {
            int chosen = kind;
            int rounds = kind < 5 ? (CALLS - 1) / 5 : (CALLS - 1) / 6;
            makesNothing("slowly growing, of kind " + kind, y -> slowlyGrowing(y, sizes, rounds, chosen));
        }
    }

    /** Random calls, with images of all sizes among them. */
    private static void mixedCalls(SumsThatTell x, int[] picks) {
        for (int i = 0; i + 4 < picks.length; i += 5) {
            int a = picks[i + 1];
            int b = picks[i + 2];
            int c = picks[i + 3];
            switch (picks[i]) {
                case 0, 1, 2 -> x.person(a % 3, 0, 2 + b, 1 + c % 3);
                case 3 -> x.change(a, b);
                case 4, 5 -> x.ask(a % 4, b % 4, 255, 1 + c);
                case 6 -> x.would(a % 4, b % 4, 255, 1 + c);
                case 7 -> x.wish(a % 4, b + 1, c + 1);
                case 8 -> x.most(a % 4);
                case 9 -> x.together(a % 4, b);
                case 10 -> x.image(a % 3);
                case 11, 12 -> x.again(a % 3);
                case 13 -> x.join(a % 4, b % 4);
                case 14 -> x.knows(a % 4, b, c % 4);
                default -> x.broken(a % 4);
            }
        }
    }

    private static int[] picksOf(int seed) {
        Random random = new Random(seed);
        int[] picks = new int[5 * CALLS];
        for (int i = 0; i < picks.length; i++) {
            picks[i] = random.nextInt(i % 5 == 0 ? 16 : 10);
        }
        return picks;
    }

    private static void runsMakeNothing() {
        for (int kind = 0; kind < 6; kind++) {
            int chosen = kind;
            makesNothing("dear calls of kind " + kind, x -> dearCalls(x, chosen));
        }
        makesNothing("growing", RoomTest::growing);
        slowlyGrowing();
        for (int seed = 0; seed < 50; seed++) {
            int[] picks = picksOf(seed);
            makesNothing("mixed calls " + seed, x -> mixedCalls(x, picks));
        }
    }

    private static int odd(Random random) {
        return random.nextInt(3) == 0 ? ODD[random.nextInt(ODD.length)] : random.nextInt(9);
    }

    private static void oneCall(SumsThatTell x, Random random) {
        int a = odd(random);
        int b = odd(random);
        int c = odd(random);
        int d = odd(random);
        switch (random.nextInt(18)) {
            case 0 -> x.person(a, b, c, d);
            case 1 -> x.person(a & 1, 0, c & 1, 1);
            case 2 -> x.change(a, b);
            case 3 -> x.ask(a, b, c, d);
            case 4 -> x.would(a, b, c, d);
            case 5 -> x.join(a, b);
            case 6 -> x.knows(a, b, c);
            case 7 -> x.tables(a);
            case 8 -> x.broken(a);
            case 9 -> x.tell(a, b);
            case 10 -> x.asked(a, b);
            case 11 -> x.wish(a, b, c);
            case 12 -> x.clear();
            case 13 -> x.most(a);
            case 14 -> x.together(a, b);
            case 15 -> x.count(a);
            case 16 -> x.image(a);
            default -> x.again(a);
        }
    }

    private static void oddCalls() {
        for (int seed = 0; seed < 300; seed++) {
            Random random = new Random(seed);
            SumsThatTell x = new SumsThatTell();
            if (seed % 2 == 0) {
                fill(x);
            }
            for (int i = 0; i < 2 * CALLS; i++) {
                try {
                    oneCall(x, random);
                } catch (RuntimeException | Error thrown) {
                    wrong++;
                    System.out.println("run " + seed + ", call " + i + " threw " + thrown);
                    return;
                }
            }
        }
    }

    public static void main(String[] args) {
        newObject();
        runsMakeNothing();
        oddCalls();
        System.out.println(wrong == 0 ? "room is kept and nothing is thrown" : wrong + " runs are not as due");
        if (wrong != 0) {
            System.exit(1);
        }
    }
}
