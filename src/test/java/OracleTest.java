import java.util.ArrayList;
import java.util.List;
import java.util.Random;

/**
 * Random runs of calls, each answer held against a model that follows the document's words with no thought of speed:
 * it adds up every row anew, and goes through every order.
 */
public final class OracleTest {
    private static final int NONE = -1, BAD = -2, NO = -3, FULL = -4, SPENT = -5;
    private static final String[] CALLS = {"machine", "work", "move", "price", "about", "free", "fewest", "plan",
        "planAt", "tries", "cost", "order", "orderAt", "third", "byStop", "step", "tick", "wait", "count", "digest"};
    // How often each call is drawn among the free ones.
    private static final int[] SHARES = {2, 8, 5, 1, 2, 2, 2, 12, 2, 2, 2, 4, 3, 4, 4, 4, 1, 4, 2, 2};

    private static final long[][] seen = new long[CALLS.length][6];
    private static int wrong = 0;

    public static void main(String[] args) {
        int runs = args.length > 0 ? Integer.parseInt(args[0]) : 3000;
        for (int run = 0; run < runs && wrong < 10; run++) {
            oneRun(new Random(run), run);
        }
        for (int call = 0; call < CALLS.length; call++) {
            expectSeen(call);
        }
        System.out.println(wrong == 0 ? "all answers are as the model's" : wrong + " answers are not as the model's");
        if (wrong != 0) {
            System.exit(1);
        }
    }

    /** A comparison that never meets an answer of a sort would tell nothing of it. */
    private static void expectSeen(int call) {
        StringBuilder line = new StringBuilder(CALLS[call]).append(": others ").append(seen[call][0]);
        for (int k = 1; k <= 5; k++) {
            line.append(", ").append(-k).append(": ").append(seen[call][k]);
        }
        System.out.println(line);
        boolean thin = seen[call][0] == 0
            || (CALLS[call].equals("third") || CALLS[call].equals("byStop")) && seen[call][0] < 20;
        if (thin) {
            wrong++;
            System.out.println(CALLS[call] + " was hardly tried");
        }
    }

    private static void oneRun(Random random, int run) {
        MachineMover mover = new MachineMover();
        Model model = new Model();
        List<String> said = new ArrayList<>();
        // Few runs are large: the model is slow where a search is.
        int mostMachines = 2 + random.nextInt(random.nextInt(12) == 0 ? 5 : 3);
        int mostWorks = random.nextInt(60) == 0 ? 9 : 2 + random.nextInt(5);
        int room = 5 + random.nextInt(5);
        int length = 40 + random.nextInt(80);
        int last = -1;
        for (int n = 0; n < length; n++) {
            int call = n < mostMachines ? 0 : n < mostMachines + 2 * mostWorks ? 1 : draw(random, last);
            if (call == 1 && model.works.size() >= mostWorks || call == 0 && model.machines.size() >= mostMachines) {
                call = 7;
            }
            int[] p = new int[5];
            for (int k = 0; k < 5; k++) {
                p[k] = random.nextInt(25) == 0 ? odd(random) : random.nextInt(5);
            }
            shape(random, call, p, room, model);
            long want = model.answer(call, p);
            long got = ask(mover, call, p);
            said.add(CALLS[call] + java.util.Arrays.toString(p) + " = " + got);
            seen[call][want < 0 && want >= -5 ? (int) -want : 0]++;
            long wantDigest = model.digest();
            long gotDigest = mover.digest();
            if (got != want || gotDigest != wantDigest) {
                wrong++;
                System.out.println("run " + run + ": due is " + want + ", digest " + gotDigest + " for " + wantDigest);
                System.out.println(String.join("\n", said));
                return;
            }
            last = call;
        }
    }

    private static int draw(Random random, int last) {
        // A plan without an order is seldom: each is asked for its ways round.
        if (CALLS[last].equals("plan") || CALLS[last].equals("third")) {
            return last == 7 ? 13 : 14;
        }
        int sum = 0;
        for (int share : SHARES) {
            sum += share;
        }
        int left = random.nextInt(sum);
        for (int call = 0; call < SHARES.length; call++) {
            left -= SHARES[call];
            if (left < 0) {
                return call;
            }
        }
        return 0;
    }

    private static int odd(Random random) {
        int[] numbers = {-1, -2, 5, 7, 8, 9, 1000, 1001, Integer.MAX_VALUE, Integer.MIN_VALUE};
        return numbers[random.nextInt(numbers.length)];
    }

    /** Numbers that mostly mean something, so that rows and orders come to be. */
    private static void shape(Random random, int call, int[] p, int room, Model model) {
        if (random.nextInt(30) == 0) {
            return;
        }
        int machines = Math.max(1, model.machines.size());
        switch (CALLS[call]) {
            case "machine" -> {
                p[0] = room + random.nextInt(4);
                p[1] = room + random.nextInt(4);
            }
            case "work" -> {
                p[0] = random.nextInt(6);
                p[1] = random.nextInt(6);
                p[2] = random.nextInt(3) == 0 ? random.nextInt(5) : random.nextInt(3);
                p[3] = p[2] == 4 ? model.tick + random.nextInt(40) : random.nextInt(2);
                p[4] = random.nextInt(machines);
            }
            case "move" -> {
                p[0] = random.nextInt(Math.max(1, model.works.size()));
                p[1] = random.nextInt(machines);
            }
            case "price" -> p[0] = random.nextInt(4);
            case "about" -> {
                p[0] = random.nextInt(9);
                p[1] = random.nextInt(7);
            }
            case "plan" -> {
                p[0] = random.nextInt(3);
                p[1] = random.nextInt(machines);
                p[2] = p[0] == 2 ? 1 + random.nextInt(4) : random.nextInt(room);
                p[3] = random.nextInt(room);
            }
            case "planAt" -> p[0] = random.nextInt(9);
            case "tick" -> p[0] = 1 + random.nextInt(10);
            case "wait" -> p[0] = random.nextInt(machines);
            case "count" -> p[0] = random.nextInt(8);
            default -> { }
        }
    }

    private static long ask(MachineMover mover, int call, int[] p) {
        return switch (CALLS[call]) {
            case "machine" -> mover.machine(p[0], p[1]);
            case "work" -> mover.work(p[0], p[1], p[2], p[3], p[4]);
            case "move" -> mover.move(p[0], p[1]);
            case "price" -> mover.price(p[0]);
            case "about" -> mover.about(p[0], p[1]);
            case "free" -> mover.free(p[0], p[1]);
            case "fewest" -> mover.fewest();
            case "plan" -> mover.plan(p[0], p[1], p[2], p[3]);
            case "planAt" -> mover.planAt(p[0]);
            case "tries" -> mover.tries();
            case "cost" -> mover.cost();
            case "order" -> mover.order();
            case "orderAt" -> mover.orderAt(p[0]);
            case "third" -> mover.third();
            case "byStop" -> mover.byStop();
            case "step" -> mover.step(p[0] == 0);
            case "tick" -> mover.tick(p[0]);
            case "wait" -> mover.wait(p[0]);
            case "count" -> mover.count(p[0]);
            default -> mover.digest();
        };
    }

    private static final class Work {
        int a, b, kind, g;
        boolean ended;
    }

    /** A move of the works of a block to a machine, in an order. */
    private record Move(int block, int to) { }

    private static final class Model {
        final List<int[]> machines = new ArrayList<>();
        final List<Work> works = new ArrayList<>();
        List<Integer> at = new ArrayList<>();
        List<Integer> plan = null;
        int price = 10, tick = 0, tries = 0, paid = 0;

        // The search's own count and finds.
        private int count;
        private boolean spent;
        private final List<List<Integer>> rows = new ArrayList<>();

        long answer(int call, int[] p) {
            return switch (CALLS[call]) {
                case "machine" -> machine(p[0], p[1]);
                case "work" -> work(p);
                case "move" -> move(p[0], p[1]);
                case "price" -> price(p[0]);
                case "about" -> about(p[0], p[1]);
                case "free" -> free(p[0], p[1]);
                case "fewest" -> fewest();
                case "plan" -> plan(p[0], p[1], p[2], p[3]);
                case "planAt" -> planAt(p[0]);
                case "tries" -> tries;
                case "cost" -> plan == null ? NO : costOf(plan);
                case "order" -> plan == null ? NO : firstOrder() == null ? 0 : 1;
                case "orderAt" -> orderAt(p[0]);
                case "third" -> third();
                case "byStop" -> byStop();
                case "step" -> step(p[0] == 0);
                case "tick" -> tick(p[0]);
                case "wait" -> waitFor(p[0]);
                case "count" -> count(p[0]);
                default -> digest();
            };
        }

        private static boolean within(int number, int low, int high) {
            return low <= number && number <= high;
        }

        private boolean isMachine(int m) {
            return within(m, 0, machines.size() - 1);
        }

        private boolean isWork(int w) {
            return within(w, 0, works.size() - 1);
        }

        int machine(int a, int b) {
            if (!within(a, 0, 1000) || !within(b, 0, 1000)) {
                return BAD;
            }
            if (machines.size() == 5) {
                return FULL;
            }
            machines.add(new int[] {a, b});
            return machines.size() - 1;
        }

        int work(int[] p) {
            boolean groupRight = switch (p[2]) {
                case 0, 3 -> true;
                case 1, 2 -> within(p[3], 0, 3);
                case 4 -> p[3] > tick;
                default -> false;
            };
            if (!within(p[0], 0, 1000) || !within(p[1], 0, 1000) || !groupRight || !isMachine(p[4])) {
                return BAD;
            }
            Work work = new Work();
            work.a = p[0];
            work.b = p[1];
            work.kind = p[2];
            work.g = p[3];
            works.add(work);
            at.add(p[4]);
            int refusal = !isRight(at) ? NO : works.size() > 8 ? FULL : 0;
            if (refusal != 0) {
                works.remove(works.size() - 1);
                at.remove(at.size() - 1);
                return refusal;
            }
            plan = null;
            return works.size() - 1;
        }

        int move(int block, int machine) {
            if (!isWork(block) || !isMachine(machine) || blockOf(block) != block) {
                return BAD;
            }
            if (works.get(block).kind == 3 || at.get(block) == machine) {
                return NO;
            }
            List<Integer> after = moved(at, block, machine);
            if (!isRight(after)) {
                return NO;
            }
            at = after;
            paid += costOfBlock(block);
            plan = null;
            return 1;
        }

        int price(int p) {
            if (!within(p, 0, 1000)) {
                return BAD;
            }
            int was = price;
            price = p;
            return was;
        }

        int about(int w, int what) {
            if (!isWork(w) || !within(what, 0, 5)) {
                return BAD;
            }
            Work work = works.get(w);
            return new int[] {at.get(w), work.a, work.b, work.kind, blockOf(w), work.ended ? 1 : 0}[what];
        }

        int free(int m, int what) {
            if (!isMachine(m) || !within(what, 0, 2)) {
                return BAD;
            }
            int standing = 0;
            for (int place : at) {
                standing += place == m ? 1 : 0;
            }
            return what == 2 ? standing : freeIn(at, m, what);
        }

        int fewest() {
            search(3, 0, 0, 0);
            tries = count;
            if (spent) {
                return SPENT;
            }
            int fewest = 5;
            for (List<Integer> row : rows) {
                fewest = Math.min(fewest, occupied(row));
            }
            return fewest;
        }

        int plan(int goal, int m, int a, int b) {
            plan = null;
            boolean right = switch (goal) {
                case 0 -> isMachine(m);
                case 1 -> isMachine(m) && within(a, 0, 1000) && within(b, 0, 1000);
                case 2 -> within(a, 1, 5);
                default -> false;
            };
            if (!right) {
                return BAD;
            }
            List<Integer> found = bestRow(goal, m, a, b);
            tries = count;
            if (spent) {
                return SPENT;
            }
            plan = found;
            return plan == null ? NONE : movesOf(plan).size();
        }

        int planAt(int w) {
            return !isWork(w) ? BAD : plan == null ? NO : plan.get(w);
        }

        int orderAt(int i) {
            if (plan == null) {
                return NO;
            }
            List<Move> order = firstOrder();
            return order == null || !within(i, 0, order.size() - 1) ? NONE : order.get(i).block();
        }

        int third() {
            if (plan == null || firstOrder() != null) {
                return NO;
            }
            for (Move move : movesOf(plan)) {
                for (int m = 0; m < machines.size(); m++) {
                    if (m != at.get(move.block()) && m != move.to()) {
                        List<Move> moves = movesOf(plan);
                        moves.add(0, new Move(move.block(), m));
                        if (anyOrder(at, moves, new ArrayList<>()) != null) {
                            return move.block() * 8 + m;
                        }
                    }
                }
            }
            return NONE;
        }

        int byStop() {
            if (plan == null || firstOrder() != null) {
                return NO;
            }
            int best = NONE;
            for (Move move : movesOf(plan)) {
                List<Move> others = movesOf(plan);
                others.remove(move);
                List<Integer> without = moved(at, move.block(), NONE);
                boolean goes = anyOrder(without, others, new ArrayList<>()) != null;
                if (goes && (best == NONE || costOfBlock(move.block()) < costOfBlock(best))) {
                    best = move.block();
                }
            }
            return best;
        }

        int step(boolean fails) {
            List<Move> order = plan == null ? null : firstOrder();
            if (order == null || order.isEmpty()) {
                return NO;
            }
            Move first = order.get(0);
            if (!fails) {
                at = moved(at, first.block(), first.to());
                paid += costOfBlock(first.block());
            }
            return first.block();
        }

        int tick(int n) {
            if (!within(n, 1, 1000)) {
                return BAD;
            }
            int ended = 0;
            for (int k = 0; k < n; k++) {
                tick++;
                for (int w = 0; w < works.size(); w++) {
                    Work work = works.get(w);
                    if (work.kind == 4 && !work.ended && work.g == tick) {
                        work.ended = true;
                        at.set(w, NONE);
                        ended++;
                    }
                }
            }
            plan = ended > 0 ? null : plan;
            return ended;
        }

        int waitFor(int machine) {
            if (!isMachine(machine)) {
                return BAD;
            }
            if (free(machine, 2) == 0) {
                return NO;
            }
            List<Integer> stand = new ArrayList<>(at);
            long leastCost = Long.MAX_VALUE;
            long least = NONE;
            List<Integer> times = new ArrayList<>(List.of(tick));
            for (Work work : works) {
                if (work.kind == 4 && !work.ended) {
                    times.add(work.g);
                }
            }
            boolean anySpent = false;
            for (int time : times) {
                List<Work> gone = new ArrayList<>();
                for (int w = 0; w < works.size(); w++) {
                    Work work = works.get(w);
                    if (work.kind == 4 && !work.ended && work.g <= time) {
                        work.ended = true;
                        at.set(w, NONE);
                        gone.add(work);
                    }
                }
                List<Integer> row = bestRow(0, machine, 0, 0);
                anySpent |= spent;
                if (row != null) {
                    long ticks = time - tick;
                    long cost = ticks * price + costOf(row);
                    if (cost < leastCost || cost == leastCost && ticks < least) {
                        leastCost = cost;
                        least = ticks;
                    }
                }
                at = new ArrayList<>(stand);
                for (Work work : gone) {
                    work.ended = false;
                }
            }
            return anySpent ? SPENT : (int) least;
        }

        int count(int what) {
            int ended = 0;
            for (Work work : works) {
                ended += work.ended ? 1 : 0;
            }
            int[] counts = {machines.size(), works.size(), ended, tick, price, occupied(at), paid};
            return within(what, 0, 6) ? counts[what] : BAD;
        }

        long digest() {
            long h = 127;
            for (int k = 0; k < 7; k++) {
                h = 31 * h + count(k);
            }
            for (int w = 0; w < works.size(); w++) {
                for (int k = 0; k < 6; k++) {
                    h = 31 * h + about(w, k);
                }
                h = 31 * h + planAt(w);
            }
            for (int m = 0; m < machines.size(); m++) {
                for (int k = 0; k < 3; k++) {
                    h = 31 * h + free(m, k);
                }
            }
            return h;
        }

        private int blockOf(int w) {
            Work work = works.get(w);
            if (work.ended) {
                return NONE;
            }
            for (int other = 0; other < w; other++) {
                if (work.kind == 2 && works.get(other).kind == 2 && works.get(other).g == work.g) {
                    return other;
                }
            }
            return w;
        }

        private int costOfBlock(int block) {
            int cost = 0;
            for (int w = 0; w < works.size(); w++) {
                cost += blockOf(w) == block ? works.get(w).a + works.get(w).b : 0;
            }
            return cost;
        }

        private int costOf(List<Integer> row) {
            int cost = 0;
            for (Move move : movesOf(row)) {
                cost += costOfBlock(move.block());
            }
            return cost;
        }

        private List<Move> movesOf(List<Integer> row) {
            List<Move> moves = new ArrayList<>();
            for (int w = 0; w < works.size(); w++) {
                if (blockOf(w) == w && !row.get(w).equals(at.get(w))) {
                    moves.add(new Move(w, row.get(w)));
                }
            }
            return moves;
        }

        private List<Integer> moved(List<Integer> row, int block, int to) {
            List<Integer> after = new ArrayList<>(row);
            for (int w = 0; w < works.size(); w++) {
                if (blockOf(w) == block) {
                    after.set(w, to);
                }
            }
            return after;
        }

        private int freeIn(List<Integer> row, int m, int what) {
            int free = machines.get(m)[what];
            for (int w = 0; w < row.size(); w++) {
                if (row.get(w) == m) {
                    free -= what == 0 ? works.get(w).a : works.get(w).b;
                }
            }
            return free;
        }

        private int occupied(List<Integer> row) {
            int occupied = 0;
            for (int m = 0; m < machines.size(); m++) {
                occupied += row.contains(m) ? 1 : 0;
            }
            return occupied;
        }

        /** Of a row, or its beginning: the works in it, ended ones standing nowhere. */
        private boolean isRight(List<Integer> row) {
            for (int m = 0; m < machines.size(); m++) {
                if (freeIn(row, m, 0) < 0 || freeIn(row, m, 1) < 0) {
                    return false;
                }
            }
            for (int w = 0; w < row.size(); w++) {
                for (int v = 0; v < w; v++) {
                    Work one = works.get(w);
                    Work two = works.get(v);
                    boolean fellows = one.kind == two.kind && one.g == two.g && row.get(w) != NONE && row.get(v) != NONE;
                    boolean same = row.get(w).equals(row.get(v));
                    if (fellows && (one.kind == 1 && same || one.kind == 2 && !same)) {
                        return false;
                    }
                }
            }
            return true;
        }

        private boolean goalHolds(List<Integer> row, int goal, int m, int a, int b) {
            return switch (goal) {
                case 0 -> !row.contains(m);
                case 1 -> freeIn(row, m, 0) >= a && freeIn(row, m, 1) >= b;
                case 2 -> occupied(row) <= a;
                default -> true;
            };
        }

        private void search(int goal, int m, int a, int b) {
            count = 0;
            spent = false;
            rows.clear();
            give(new ArrayList<>(), goal, m, a, b);
        }

        private void give(List<Integer> row, int goal, int m, int a, int b) {
            int w = row.size();
            if (w == works.size()) {
                if (goalHolds(row, goal, m, a, b)) {
                    rows.add(new ArrayList<>(row));
                }
                return;
            }
            if (works.get(w).ended) {
                row.add(NONE);
                give(row, goal, m, a, b);
                row.remove(w);
                return;
            }
            for (int machine = 0; machine < machines.size() && !spent; machine++) {
                row.add(machine);
                boolean stays = works.get(w).kind != 3 || at.get(w) == machine;
                if (stays && isRight(row) && goalHolds(row, goal, m, a, b)) {
                    if (count == 200000) {
                        spent = true;
                    } else {
                        count++;
                        give(row, goal, m, a, b);
                    }
                }
                row.remove(w);
            }
        }

        private List<Integer> bestRow(int goal, int m, int a, int b) {
            search(goal, m, a, b);
            List<Integer> best = null;
            for (List<Integer> row : rows) {
                if (best == null || movesOf(row).size() < movesOf(best).size()) {
                    best = row;
                }
            }
            return best;
        }

        private List<Move> firstOrder() {
            return anyOrder(at, movesOf(plan), new ArrayList<>());
        }

        /** The first order of moves; of two with one block, the one that stands first goes first. */
        private List<Move> anyOrder(List<Integer> row, List<Move> left, List<Move> made) {
            if (left.isEmpty()) {
                return made;
            }
            for (int k = 0; k < left.size(); k++) {
                Move move = left.get(k);
                boolean early = false;
                for (int before = 0; before < k; before++) {
                    early |= left.get(before).block() == move.block();
                }
                List<Integer> after = moved(row, move.block(), move.to());
                if (early || !isRight(after)) {
                    continue;
                }
                List<Move> rest = new ArrayList<>(left);
                rest.remove(k);
                List<Move> longer = new ArrayList<>(made);
                longer.add(move);
                List<Move> order = anyOrder(after, rest, longer);
                if (order != null) {
                    return order;
                }
            }
            return null;
        }
    }
}
