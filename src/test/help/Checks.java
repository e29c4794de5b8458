import java.util.function.IntSupplier;

/** What the tests by hand have in common: the document's numbers, movers to begin with, and ways to hold answers. */
abstract class Checks {
    static final int NONE = -1, BAD = -2, NO = -3, FULL = -4, SPENT = -5;
    static final int PLAIN = 0, TWIN = 1, FRIEND = 2, STUCK = 3, BRIEF = 4;
    static final int EMPTY = 0, ROOM = 1, FEW = 2;
    static final int HIGH = Integer.MAX_VALUE, LOW = Integer.MIN_VALUE;

    private static int wrong = 0;
    private static String sentence = "";

    /** One test, named by its promise and by the words of the document to which it holds. */
    static void test(String words, Runnable body) {
        sentence = words;
        body.run();
    }

    static void end() {
        System.out.println(wrong == 0 ? "all answers are as promised" : wrong + " answers are not as promised");
        if (wrong != 0) {
            System.exit(1);
        }
    }

    static void due(String what, long got, long want) {
        if (got != want) {
            fail(what, got, want);
        }
    }

    /** A refused call answers why, and changes nothing. */
    static void refused(MachineMover x, String what, int want, IntSupplier call) {
        asked(x, what, want, call);
    }

    /** A call that changes nothing that any other call could tell. */
    static void asked(MachineMover x, String what, int want, IntSupplier call) {
        String before = state(x);
        due(what, call.getAsInt(), want);
        String after = state(x);
        if (!after.equals(before)) {
            fail(what + ", changed", after, before);
        }
    }

    /** All calls that ask for the plan, when there is none. */
    static void noPlan(String what, MachineMover x) {
        for (int work = 0; work < x.count(1); work++) {
            due(what + ": planAt(" + work + ")", x.planAt(work), NO);
        }
        due(what + ": cost", x.cost(), NO);
        due(what + ": order", x.order(), NO);
        due(what + ": orderAt", x.orderAt(0), NO);
        due(what + ": third", x.third(), NO);
        due(what + ": byStop", x.byStop(), NO);
        due(what + ": step", x.step(false), NO);
    }

    /** A mover with machines of two like rooms each. */
    static MachineMover machines(int... rooms) {
        MachineMover x = new MachineMover();
        for (int k = 0; k < rooms.length; k++) {
            due("machine " + k, x.machine(rooms[k], rooms[k]), k);
        }
        return x;
    }

    static void plain(MachineMover x, int need, int machine) {
        works(x, need, PLAIN, 0, machine);
    }

    static void works(MachineMover x, int need, int kind, int g, int machine) {
        int expected = x.count(1);
        due("work " + expected, x.work(need, need, kind, g, machine), expected);
    }

    /** Two machines full but for a little, whose works 0 and 1 must change places for the plan that is at hand. */
    static MachineMover swap(int first, int second, int large, int small) {
        MachineMover x = machines(first, second);
        x.work(large, large, PLAIN, 0, 0);
        x.work(small, small, PLAIN, 0, 1);
        x.work(first - large, 0, STUCK, 0, 0);
        x.work(second - large, 0, STUCK, 0, 1);
        due("the swap is planned", x.plan(ROOM, 0, large - small, 0), 2);
        return x;
    }

    static void places(String what, MachineMover x, int... machines) {
        for (int work = 0; work < machines.length; work++) {
            due(what + ": about(" + work + ", 0)", x.about(work, 0), machines[work]);
        }
    }

    static void planned(String what, MachineMover x, int... machines) {
        for (int work = 0; work < machines.length; work++) {
            due(what + ": planAt(" + work + ")", x.planAt(work), machines[work]);
        }
    }

    static void ordered(String what, MachineMover x, int... blocks) {
        due(what + ": order", x.order(), 1);
        for (int i = 0; i < blocks.length; i++) {
            due(what + ": orderAt(" + i + ")", x.orderAt(i), blocks[i]);
        }
        due(what + ": orderAt(" + blocks.length + ")", x.orderAt(blocks.length), NONE);
    }

    /** The digest as the document tells it, of values in its order. */
    static long told(long h, int... values) {
        for (int value : values) {
            h = 31 * h + value;
        }
        return h;
    }

    private static String state(MachineMover x) {
        StringBuilder all = new StringBuilder("digest ").append(x.digest()).append(", tries ").append(x.tries())
            .append(", cost ").append(x.cost()).append(", order ").append(x.order());
        for (int i = 0; i < 8; i++) {
            all.append(' ').append(x.orderAt(i));
        }
        return all.toString();
    }

    private static void fail(String what, Object got, Object want) {
        wrong++;
        System.out.println((sentence.isEmpty() ? "" : "[" + sentence + "] ") + what + ": " + got + ", due is " + want);
    }
}
