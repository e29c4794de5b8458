/** A planner of emptied machines; ../shared/DOC.md says in numbered promises what each call does. */
public final class MachineMover {
    public static final int NONE = -1, BAD = -2, NO = -3, FULL = -4, SPENT = -5;

    private static final int MOST_MACHINES = 5;
    private static final int MOST_WORKS = 8;
    private static final int MOST = 1000;
    private static final int GROUPS = 4;
    private static final int MOST_TRIES = 200000;

    private static final int PLAIN = 0, TWIN = 1, FRIEND = 2, STUCK = 3, BRIEF = 4;
    private static final int EMPTY = 0, ROOM = 1, FEW = 2, NO_GOAL = 3;

    private final Stock stock = new Stock();
    private final Row hand = new Row(stock);
    private final Search search = new Search(stock, hand);
    private final Orders orders = new Orders(stock, hand);
    private final Waits waits = new Waits(stock, hand, search);
    private final int[] plan = new int[MOST_WORKS];
    private boolean planned = false;
    private int price = 10;
    private int now = 0;
    private int latestTries = 0;
    private int paid = 0;

    public MachineMover() {
    }

    public int machine(int a, int b) {
        if (!isAmount(a) || !isAmount(b)) {
            return BAD;
        }
        if (stock.machines >= MOST_MACHINES) {
            return FULL;
        }
        return stock.addMachine(a, b);
    }

    public int work(int a, int b, int kind, int g, int machine) {
        if (!isAmount(a) || !isAmount(b) || !isKindWithGroup(kind, g) || !stock.hasMachine(machine)) {
            return BAD;
        }
        int newcomer = stock.describeNewcomer(a, b, kind, g);
        if (!hand.takes(newcomer, machine)) {
            return NO;
        }
        if (stock.works >= MOST_WORKS) {
            return FULL;
        }
        stock.addNewcomer();
        hand.put(newcomer, machine);
        planned = false;
        return newcomer;
    }

    public int move(int block, int machine) {
        if (!stock.hasWork(block) || !isBlockAtHand(block) || !stock.hasMachine(machine)) {
            return BAD;
        }
        if (stock.kind[block] == STUCK || hand.at[block] == machine || !hand.takesBlock(block, machine)) {
            return NO;
        }
        makeMove(block, machine);
        planned = false;
        return 1;
    }

    public int price(int p) {
        if (!isAmount(p)) {
            return BAD;
        }
        int before = price;
        price = p;
        return before;
    }

    public int about(int work, int what) {
        if (!stock.hasWork(work)) {
            return BAD;
        }
        boolean ended = hand.at[work] == NONE;
        switch (what) {
            case 0:
                return hand.at[work];
            case 1:
                return stock.needA[work];
            case 2:
                return stock.needB[work];
            case 3:
                return stock.kind[work];
            case 4:
                return ended ? NONE : stock.block[work];
            case 5:
                return ended ? 1 : 0;
            default:
                return BAD;
        }
    }

    public int free(int machine, int what) {
        if (!stock.hasMachine(machine)) {
            return BAD;
        }
        switch (what) {
            case 0:
                return hand.freeA(machine);
            case 1:
                return hand.freeB(machine);
            case 2:
                return hand.standing[machine];
            default:
                return BAD;
        }
    }

    public int fewest() {
        search.aim(NO_GOAL, NONE, 0, 0);
        search.run(now);
        latestTries = search.tries;
        return search.spent ? SPENT : search.fewestMachines;
    }

    public int plan(int goal, int m, int a, int b) {
        planned = false;
        if (!isGoal(goal, m, a, b)) {
            return BAD;
        }
        search.aim(goal, m, a, b);
        search.run(now);
        latestTries = search.tries;
        if (search.spent) {
            return SPENT;
        }
        if (search.fewestMoves == NONE) {
            return NONE;
        }
        System.arraycopy(search.best, 0, plan, 0, MOST_WORKS);
        planned = true;
        return search.fewestMoves;
    }

    public int planAt(int work) {
        if (!stock.hasWork(work)) {
            return BAD;
        }
        return planned ? plan[work] : NO;
    }

    public int tries() {
        return latestTries;
    }

    public int cost() {
        return planned ? hand.costTo(plan) : NO;
    }

    public int order() {
        if (!planned) {
            return NO;
        }
        return orders.findOrder(plan) ? 1 : 0;
    }

    public int orderAt(int i) {
        if (!planned) {
            return NO;
        }
        if (!orders.findOrder(plan) || i < 0 || i >= orders.jobs) {
            return NONE;
        }
        return orders.order[i];
    }

    public int third() {
        return lacksOrder() ? orders.firstThird(plan) : NO;
    }

    public int byStop() {
        return lacksOrder() ? orders.leastStop(plan) : NO;
    }

    public int step(boolean fails) {
        if (!planned || !orders.findOrder(plan) || orders.jobs == 0) {
            return NO;
        }
        int block = orders.order[0];
        if (!fails) {
            makeMove(block, plan[block]);
        }
        return block;
    }

    public int tick(int n) {
        if (n < 1 || n > MOST) {
            return BAD;
        }
        now += n;
        int ended = 0;
        for (int work = 0; work < stock.works; work++) {
            if (hand.at[work] != NONE && stock.endsBy(work, now)) {
                hand.remove(work);
                ended++;
            }
        }
        if (ended > 0) {
            planned = false;
        }
        return ended;
    }

    public int wait(int machine) {
        if (!stock.hasMachine(machine)) {
            return BAD;
        }
        if (hand.standing[machine] == 0) {
            return NO;
        }
        return waits.least(machine, now, price);
    }

    public int count(int what) {
        switch (what) {
            case 0:
                return stock.machines;
            case 1:
                return stock.works;
            case 2:
                return stock.works - hand.working();
            case 3:
                return now;
            case 4:
                return price;
            case 5:
                return hand.occupied;
            case 6:
                return paid;
            default:
                return BAD;
        }
    }

    public long digest() {
        long h = 127;
        for (int what = 0; what <= 6; what++) {
            h = 31 * h + count(what);
        }
        for (int work = 0; work < stock.works; work++) {
            for (int what = 0; what <= 5; what++) {
                h = 31 * h + about(work, what);
            }
            h = 31 * h + planAt(work);
        }
        for (int machine = 0; machine < stock.machines; machine++) {
            for (int what = 0; what <= 2; what++) {
                h = 31 * h + free(machine, what);
            }
        }
        return h;
    }

    private static boolean isAmount(int number) {
        return number >= 0 && number <= MOST;
    }

    private boolean isKindWithGroup(int kind, int g) {
        if (kind == TWIN || kind == FRIEND) {
            return g >= 0 && g < GROUPS;
        }
        if (kind == BRIEF) {
            return g > now;
        }
        return kind == PLAIN || kind == STUCK;
    }

    private boolean isGoal(int goal, int m, int a, int b) {
        switch (goal) {
            case EMPTY:
                return stock.hasMachine(m);
            case ROOM:
                return stock.hasMachine(m) && isAmount(a) && isAmount(b);
            case FEW:
                return a >= 1 && a <= MOST_MACHINES;
            default:
                return false;
        }
    }

    private boolean isBlockAtHand(int work) {
        return stock.block[work] == work && hand.at[work] != NONE;
    }

    private boolean lacksOrder() {
        return planned && !orders.findOrder(plan);
    }

    private void makeMove(int block, int machine) {
        hand.shift(block, machine);
        paid += stock.moveCost(block);
    }

    /** What is told of machines and works; it never changes once told. */
    private static final class Stock {
        int machines = 0;
        int works = 0;
        final int[] roomA = new int[MOST_MACHINES];
        final int[] roomB = new int[MOST_MACHINES];
        // One place more than there are works: a newcomer is described before it is known to come.
        final int[] needA = new int[MOST_WORKS + 1];
        final int[] needB = new int[MOST_WORKS + 1];
        final int[] kind = new int[MOST_WORKS + 1];
        // The number of a friends' group; of other works none.
        final int[] group = new int[MOST_WORKS + 1];
        // The bit of a twins' group; of other works no bit.
        final int[] twinBit = new int[MOST_WORKS + 1];
        final int[] end = new int[MOST_WORKS + 1];
        final int[] block = new int[MOST_WORKS + 1];
        final int[] blockA = new int[MOST_WORKS + 1];
        final int[] blockB = new int[MOST_WORKS + 1];

        boolean hasMachine(int machine) {
            return machine >= 0 && machine < machines;
        }

        boolean hasWork(int work) {
            return work >= 0 && work < works;
        }

        int addMachine(int a, int b) {
            int machine = machines;
            roomA[machine] = a;
            roomB[machine] = b;
            machines++;
            return machine;
        }

        int describeNewcomer(int a, int b, int ofKind, int g) {
            int newcomer = works;
            needA[newcomer] = a;
            needB[newcomer] = b;
            kind[newcomer] = ofKind;
            group[newcomer] = ofKind == FRIEND ? g : NONE;
            twinBit[newcomer] = ofKind == TWIN ? 1 << g : 0;
            end[newcomer] = ofKind == BRIEF ? g : NONE;
            block[newcomer] = ofKind == FRIEND ? leastFriend(g, newcomer) : newcomer;
            return newcomer;
        }

        void addNewcomer() {
            int newcomer = works;
            int leader = block[newcomer];
            blockA[leader] += needA[newcomer];
            blockB[leader] += needB[newcomer];
            works++;
        }

        int moveCost(int ofBlock) {
            return blockA[ofBlock] + blockB[ofBlock];
        }

        boolean endsBy(int work, int tick) {
            return kind[work] == BRIEF && end[work] <= tick;
        }

        private int leastFriend(int g, int newcomer) {
            for (int work = 0; work < newcomer; work++) {
                if (kind[work] == FRIEND && group[work] == g) {
                    return work;
                }
            }
            return newcomer;
        }
    }

    /** Where works stand, and what of the machines that uses: kept with each change, as searches ask at each try. */
    private static final class Row {
        final Stock stock;
        final int[] at = new int[MOST_WORKS];
        final int[] usedA = new int[MOST_MACHINES];
        final int[] usedB = new int[MOST_MACHINES];
        final int[] standing = new int[MOST_MACHINES];
        // The bits of the twins' groups that have one on the machine.
        final int[] twins = new int[MOST_MACHINES];
        int occupied = 0;

        Row(Stock stock) {
            this.stock = stock;
        }

        void clear() {
            for (int work = 0; work < MOST_WORKS; work++) {
                at[work] = NONE;
            }
            for (int machine = 0; machine < MOST_MACHINES; machine++) {
                usedA[machine] = 0;
                usedB[machine] = 0;
                standing[machine] = 0;
                twins[machine] = 0;
            }
            occupied = 0;
        }

        void copy(Row other) {
            System.arraycopy(other.at, 0, at, 0, MOST_WORKS);
            System.arraycopy(other.usedA, 0, usedA, 0, MOST_MACHINES);
            System.arraycopy(other.usedB, 0, usedB, 0, MOST_MACHINES);
            System.arraycopy(other.standing, 0, standing, 0, MOST_MACHINES);
            System.arraycopy(other.twins, 0, twins, 0, MOST_MACHINES);
            occupied = other.occupied;
        }

        int freeA(int machine) {
            return stock.roomA[machine] - usedA[machine];
        }

        int freeB(int machine) {
            return stock.roomB[machine] - usedB[machine];
        }

        /** Works come in order, so a friend whose leader stands nowhere is the leader itself. */
        boolean takes(int work, int machine) {
            int leader = stock.block[work];
            return stock.needA[work] <= freeA(machine)
                    && stock.needB[work] <= freeB(machine)
                    && (twins[machine] & stock.twinBit[work]) == 0
                    && (leader == work || at[leader] == machine);
        }

        boolean takesBlock(int block, int machine) {
            return stock.blockA[block] <= freeA(machine)
                    && stock.blockB[block] <= freeB(machine)
                    && (twins[machine] & stock.twinBit[block]) == 0;
        }

        void put(int work, int machine) {
            at[work] = machine;
            usedA[machine] += stock.needA[work];
            usedB[machine] += stock.needB[work];
            twins[machine] |= stock.twinBit[work];
            if (standing[machine] == 0) {
                occupied++;
            }
            standing[machine]++;
        }

        void remove(int work) {
            int machine = at[work];
            if (machine == NONE) {
                return;
            }
            at[work] = NONE;
            usedA[machine] -= stock.needA[work];
            usedB[machine] -= stock.needB[work];
            twins[machine] &= ~stock.twinBit[work];
            standing[machine]--;
            if (standing[machine] == 0) {
                occupied--;
            }
        }

        void removeBlock(int block) {
            for (int work = block; work < stock.works; work++) {
                if (stock.block[work] == block) {
                    remove(work);
                }
            }
        }

        void shift(int block, int machine) {
            for (int work = block; work < stock.works; work++) {
                if (stock.block[work] == block) {
                    remove(work);
                    put(work, machine);
                }
            }
        }

        boolean isMovedIn(int work, int[] places) {
            return stock.block[work] == work && at[work] != NONE
                    && places[work] != NONE && places[work] != at[work];
        }

        int costTo(int[] places) {
            int cost = 0;
            for (int work = 0; work < stock.works; work++) {
                if (isMovedIn(work, places)) {
                    cost += stock.moveCost(work);
                }
            }
            return cost;
        }

        int working() {
            int count = 0;
            for (int work = 0; work < stock.works; work++) {
                if (at[work] != NONE) {
                    count++;
                }
            }
            return count;
        }
    }

    /** THE SEARCH: all right rows for a goal, with the count of its tries. */
    private static final class Search {
        final Stock stock;
        final Row hand;
        final Row row;
        final int[] best = new int[MOST_WORKS];
        int tries = 0;
        boolean spent = false;
        int fewestMoves = NONE;
        int fewestMachines = NONE;
        private int goal = NO_GOAL;
        private int target = NONE;
        private int goalA = 0;
        private int goalB = 0;
        private int till = 0;

        Search(Stock stock, Row hand) {
            this.stock = stock;
            this.hand = hand;
            this.row = new Row(stock);
        }

        void aim(int atGoal, int m, int a, int b) {
            goal = atGoal;
            target = m;
            goalA = a;
            goalB = b;
        }

        /** Goes through the rows of the works that have not ended by a tick. */
        void run(int tick) {
            till = tick;
            tries = 0;
            spent = false;
            fewestMoves = NONE;
            fewestMachines = NONE;
            row.clear();
            // A goal that fails with nothing given fails with anything given: there is no row, and no try.
            if (goalHolds()) {
                giveFrom(0, 0);
            }
        }

        private void giveFrom(int from, int moves) {
            int work = nextWork(from);
            if (work >= stock.works) {
                keep(moves);
                return;
            }
            boolean leads = stock.block[work] == work;
            for (int machine = 0; machine < stock.machines && !spent; machine++) {
                boolean away = machine != hand.at[work];
                if (stock.kind[work] == STUCK && away || !row.takes(work, machine)) {
                    continue;
                }
                row.put(work, machine);
                if (goalHolds() && countTry()) {
                    giveFrom(work + 1, leads && away ? moves + 1 : moves);
                }
                row.remove(work);
            }
        }

        private int nextWork(int from) {
            int work = from;
            while (work < stock.works && (hand.at[work] == NONE || stock.endsBy(work, till))) {
                work++;
            }
            return work;
        }

        private boolean countTry() {
            if (tries >= MOST_TRIES) {
                spent = true;
                return false;
            }
            tries++;
            return true;
        }

        private boolean goalHolds() {
            switch (goal) {
                case EMPTY:
                    return row.standing[target] == 0;
                case ROOM:
                    return row.freeA(target) >= goalA && row.freeB(target) >= goalB;
                case FEW:
                    return row.occupied <= goalA;
                default:
                    return true;
            }
        }

        /** Of rows with as many moves the first one stays. */
        private void keep(int moves) {
            if (fewestMoves == NONE || moves < fewestMoves) {
                fewestMoves = moves;
                System.arraycopy(row.at, 0, best, 0, MOST_WORKS);
            }
            if (fewestMachines == NONE || row.occupied < fewestMachines) {
                fewestMachines = row.occupied;
            }
        }
    }

    /** Looks for the cheapest wait before a machine is emptied. */
    private static final class Waits {
        final Stock stock;
        final Row hand;
        final Search search;
        private int leastTicks = NONE;
        private long leastCost = 0;

        Waits(Stock stock, Row hand, Search search) {
            this.stock = stock;
            this.hand = hand;
            this.search = search;
        }

        int least(int machine, int now, int price) {
            search.aim(EMPTY, machine, 0, 0);
            leastTicks = NONE;
            boolean spent = weigh(now, 0, price);
            for (int work = 0; work < stock.works && !spent; work++) {
                if (hand.at[work] != NONE && stock.kind[work] == BRIEF) {
                    spent = weigh(stock.end[work], stock.end[work] - now, price);
                }
            }
            return spent ? SPENT : leastTicks;
        }

        /** Answers whether the search was spent. */
        private boolean weigh(int till, int ticks, int price) {
            search.run(till);
            if (search.spent || search.fewestMoves == NONE) {
                return search.spent;
            }
            // A wait may be as long as an int tells: its price takes a long.
            long cost = (long) ticks * price + hand.costTo(search.best);
            boolean better = cost < leastCost || cost == leastCost && ticks < leastTicks;
            if (leastTicks == NONE || better) {
                leastTicks = ticks;
                leastCost = cost;
            }
            return false;
        }
    }

    /** Looks for orders of a plan's moves: jobs, each of which takes a block to a machine. */
    private static final class Orders {
        // A move by a third place is one job more than there are blocks.
        private static final int MOST_JOBS = MOST_WORKS + 1;

        final Stock stock;
        final Row hand;
        final Row row;
        int jobs = 0;
        final int[] order = new int[MOST_JOBS];
        private final int[] block = new int[MOST_JOBS];
        private final int[] to = new int[MOST_JOBS];
        // Jobs that must be over before: a bit each.
        private final int[] before = new int[MOST_JOBS];
        // What stands where follows from which jobs are over, so a set that led nowhere is not tried again.
        private final boolean[] hopeless = new boolean[1 << MOST_JOBS];

        Orders(Stock stock, Row hand) {
            this.stock = stock;
            this.hand = hand;
            this.row = new Row(stock);
        }

        boolean findOrder(int[] plan) {
            gather(plan, NONE);
            return seekAnew();
        }

        int firstThird(int[] plan) {
            for (int work = 0; work < stock.works; work++) {
                for (int machine = 0; machine < stock.machines && hand.isMovedIn(work, plan); machine++) {
                    if (machine != hand.at[work] && machine != plan[work] && hasThird(plan, work, machine)) {
                        return work * 8 + machine;
                    }
                }
            }
            return NONE;
        }

        int leastStop(int[] plan) {
            int least = NONE;
            for (int work = 0; work < stock.works; work++) {
                boolean smaller = least == NONE || stock.moveCost(work) < stock.moveCost(least);
                if (smaller && hand.isMovedIn(work, plan) && hasStop(plan, work)) {
                    least = work;
                }
            }
            return least;
        }

        private boolean hasThird(int[] plan, int ofBlock, int machine) {
            gather(plan, NONE);
            int detour = jobs;
            for (int job = 0; job < detour; job++) {
                if (block[job] == ofBlock) {
                    before[job] = 1 << detour;
                }
            }
            addJob(ofBlock, machine);
            return seekAnew();
        }

        /** The stopped block's own coming needs no look: the plan's row is right, so it has room as the last. */
        private boolean hasStop(int[] plan, int ofBlock) {
            gather(plan, ofBlock);
            row.removeBlock(ofBlock);
            return seekAnew();
        }

        private void gather(int[] plan, int without) {
            row.copy(hand);
            jobs = 0;
            for (int work = 0; work < stock.works; work++) {
                if (work != without && hand.isMovedIn(work, plan)) {
                    addJob(work, plan[work]);
                }
            }
        }

        private void addJob(int ofBlock, int machine) {
            block[jobs] = ofBlock;
            to[jobs] = machine;
            before[jobs] = 0;
            jobs++;
        }

        private boolean seekAnew() {
            for (int over = 0; over < 1 << jobs; over++) {
                hopeless[over] = false;
            }
            return seek(0, 0);
        }

        /** Jobs stand by their blocks' numbers, so the first order found is THE ORDER. */
        private boolean seek(int over, int depth) {
            if (depth >= jobs) {
                return true;
            }
            if (hopeless[over]) {
                return false;
            }
            for (int job = 0; job < jobs; job++) {
                boolean open = (over >> job & 1) == 0 && (before[job] & ~over) == 0;
                if (open && row.takesBlock(block[job], to[job])) {
                    int from = row.at[block[job]];
                    row.shift(block[job], to[job]);
                    order[depth] = block[job];
                    boolean found = seek(over | 1 << job, depth + 1);
                    row.shift(block[job], from);
                    if (found) {
                        return true;
                    }
                }
            }
            hopeless[over] = true;
            return false;
        }
    }
}
