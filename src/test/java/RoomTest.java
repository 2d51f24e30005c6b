import java.lang.management.ManagementFactory;
import java.util.Random;

/** No call throws, whatever it is given, in whatever state; and what a run of calls makes stays within its room. */
public final class RoomTest {
    private static final int[] ODD = {0, 1, 2, 3, 4, 5, 6, 7, 9, 10, 11, 12, 13, 30, 31, 32, 39, 40, 41, 59, 60, 61, 114, 1000,
        65536, 1 << 30, Integer.MAX_VALUE - 1, Integer.MAX_VALUE, Integer.MIN_VALUE, Integer.MIN_VALUE + 1, -1, -2, -6, -40};
    private static final int CALLS = 46;
    private static final int CALLS_OF_A_RUN = 460;
    // The room of a run: 600,000 objects and arrays, 7.3 million fields and elements, by what such take at most.
    private static final long MOST_BYTES_OF_A_RUN = 600_000L * 24 + 7_300_000L * 8;

    public static void main(String[] args) {
        odd();
        room();
        System.out.println("no call has thrown, each run stays within its room");
    }

    private static void odd() {
        for (int seed = 1; seed <= 400; seed++) {
            Random lot = new Random(seed);
            RoofLent x = seed % 4 == 0 ? new RoofLent() : rock(seed);
            for (int i = 0; i < 430; i++) {
                call(x, lot.nextInt(CALLS), some(lot), some(lot), some(lot), some(lot), some(lot));
            }
        }
    }

    private static int some(Random lot) {
        return lot.nextInt(3) == 0 ? lot.nextInt(6) : ODD[lot.nextInt(ODD.length)];
    }

    private static RoofLent rock(int seed) {
        RoofLent x = Check.on(seed % 4 == 1 ? "rrrrr" : seed % 4 == 2 ? "rh9m9l9 ra9h9g9 re9h9 rm9l9 r" : "rh9h9h9h9h9h9rh9h9h9h9h9h9");
        x.row(0, 12);
        x.lots(12, seed);
        x.keep(1);
        return x;
    }

    /** Of each call a run of its own: an object on which it is made as often as one is used. */
    private static void room() {
        com.sun.management.ThreadMXBean bean = (com.sun.management.ThreadMXBean) ManagementFactory.getThreadMXBean();
        long thread = Thread.currentThread().getId();
        long dearest = 0;
        for (int call = 0; call < CALLS; call++) {
            long start = bean.getThreadAllocatedBytes(thread);
            RoofLent x = rock(1);
            for (int i = 0; i < CALLS_OF_A_RUN; i++) {
                call(x, call, i % 5, i % 3, i % 4, i % 2, 1);
            }
            dearest = Math.max(dearest, bean.getThreadAllocatedBytes(thread) - start);
        }
        System.out.println("bytes of the dearest run: " + dearest);
        if (dearest > MOST_BYTES_OF_A_RUN) {
            System.exit(1);
        }
    }

    private static long call(RoofLent x, int call, int a, int b, int c, int d, int e) {
        return call < 20 ? first(x, call, a, b, c, d, e) : second(x, call, a, b, c);
    }

    private static int first(RoofLent x, int call, int a, int b, int c, int d, int e) {
        return switch (call) {
            case 0 -> x.row(a, b);
            case 1 -> x.lay(a, b, c);
            case 2 -> x.at(a, b);
            case 3 -> x.tear(a);
            case 4 -> x.copy(a, b, c, d, e);
            case 5 -> x.mean(a);
            case 6 -> x.text(a, b);
            case 7 -> x.put(a, b, c);
            case 8 -> x.fault(a);
            case 9 -> x.rock(a);
            case 10 -> x.tower(a);
            case 11 -> x.house(a, b, c);
            case 12 -> x.mark(a, b, c);
            case 13 -> x.bear(a, b, c);
            case 14 -> x.build(a, b, c);
            case 15 -> x.leave(a, b);
            case 16 -> x.undo(a);
            case 17 -> x.keep(a);
            case 18 -> x.on(a);
            default -> x.shades(a, b, c);
        };
    }

    private static long second(RoofLent x, int call, int a, int b, int c) {
        return switch (call) {
            case 20 -> x.sees(a, b);
            case 21 -> x.owes(a, b);
            case 22 -> x.debt(a);
            case 23 -> x.light();
            case 24 -> x.ruined();
            case 25 -> x.sways();
            case 26 -> x.best(a, b);
            case 27 -> x.both(a, b, c);
            case 28 -> x.fewest();
            case 29 -> x.relief();
            case 30 -> x.high(a, b);
            case 31 -> x.settle();
            case 32 -> x.rings();
            case 33 -> x.game(a, b);
            case 34 -> x.begin(a, b);
            case 35 -> x.fog(a);
            case 36 -> x.kinds(a, b, c);
            case 37 -> x.odds(a, b);
            case 38 -> x.lots(a, b);
            case 39 -> x.asked();
            case 40 -> x.upper();
            case 41 -> x.lower();
            case 42 -> x.count(a);
            case 43 -> x.finding();
            case 44 -> x.findings(a);
            default -> x.digest();
        };
    }
}
