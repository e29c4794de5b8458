import java.util.Random;

/** Calls with any numbers, far beyond the 512th: none may throw, and like calls have like answers. */
public final class WildTest {
    private static final int[] NUMBERS = {0, 0, 0, 1, 1, 1, 2, 2, 3, 3, 4, 5, 6, 7, 8, 9, 40, 999, 1000, 1001, -1, -2, -5,
        1 << 20, Integer.MAX_VALUE, Integer.MAX_VALUE - 1, Integer.MIN_VALUE, Integer.MIN_VALUE + 1};

    public static void main(String[] args) {
        boolean failed = false;
        for (int seed = 0; seed < 24; seed++) {
            if (run(seed) != run(seed)) {
                failed = true;
                System.out.println("seed " + seed + ": like calls have answers that are not like");
            }
        }
        System.out.println(failed ? "answers differ" : "no call throws, like calls are answered alike");
        if (failed) {
            System.exit(1);
        }
    }

    private static long run(int seed) {
        Random random = new Random(seed);
        MachineMover x = new MachineMover();
        long all = 0;
        for (int n = 0; n < 3000; n++) {
            all = 31 * all + call(x, random);
        }
        return all;
    }

    private static int any(Random random) {
        return NUMBERS[random.nextInt(NUMBERS.length)];
    }

    private static long call(MachineMover x, Random random) {
        int a = any(random);
        int b = any(random);
        int c = any(random);
        int d = any(random);
        int e = any(random);
        return switch (random.nextInt(20)) {
            case 0 -> x.machine(a, b);
            case 1 -> x.work(a, b, c, d, e);
            case 2 -> x.move(a, b);
            case 3 -> x.price(a);
            case 4 -> x.about(a, b);
            case 5 -> x.free(a, b);
            case 6 -> x.fewest();
            case 7 -> x.plan(a, b, c, d);
            case 8 -> x.planAt(a);
            case 9 -> x.tries();
            case 10 -> x.cost();
            case 11 -> x.order();
            case 12 -> x.orderAt(a);
            case 13 -> x.third();
            case 14 -> x.byStop();
            case 15 -> x.step(a == 0);
            case 16 -> x.tick(a);
            case 17 -> x.wait(a);
            case 18 -> x.count(a);
            default -> x.digest();
        };
    }
}
