/**
 * The edges of promises 8 to 11: what just fits and what does not, THE SEARCH when it is spent and just before, GOALS
 * with their least and most numbers. Each sentence of the document that names one has a test of its own.
 */
public final class EdgesOfRows extends Checks {
    private static final int[] NOT_AN_AMOUNT = {-1, LOW, 1001, HIGH};
    // On machines with these rooms works with these needs have 200000 tries, and one more.
    private static final int[] ROOMS_FOR_ALL_TRIES = {9, 20, 7, 6, 18}, NEEDS_FOR_ALL_TRIES = {4, 3, 6, 1, 3, 3, 3, 2};
    private static final int[] STAND_FOR_ALL_TRIES = {0, 0, 2, 2, 3, 3, 1, 1};
    private static final int[] ROOMS_FOR_ONE_MORE = {16, 15, 11, 10, 6}, NEEDS_FOR_ONE_MORE = {4, 1, 3, 4, 1, 6, 4, 6};
    private static final int[] STAND_FOR_ONE_MORE = {0, 0, 0, 0, 0, 1, 1, 2};

    public static void main(String[] args) {
        test("8: on which something stands: nothing does", EdgesOfRows::fewestOfNothing);
        test("8: WORKS that have ended are of no account", EdgesOfRows::fewestOfEnded);
        test("8: any RIGHT ROW: what just fits on one MACHINE", EdgesOfRows::fewestJustFits);
        test("8: any RIGHT ROW: TWINS on all MACHINES", EdgesOfRows::fewestTwins);
        test("8: with STUCK ones where they stand: on all MACHINES", EdgesOfRows::fewestStuck);
        test("8: FRIENDS together: what just fits", EdgesOfRows::fewestFriends);
        test("8: nothing is changed", EdgesOfRows::fewestChangesNothing);
        test("8: SPENT: beyond 200000 TRIES: not with 200000", EdgesOfRows::allTries);
        test("8: SPENT: beyond 200000 TRIES: with one more", EdgesOfRows::oneTryMore);
        test("8: SPENT changes nothing", EdgesOfRows::spentFewestKeepsPlan);
        test("9: BAD: the GOAL", EdgesOfRows::planGoalOutside);
        test("9: BAD: GOAL 0: m", EdgesOfRows::emptyNoMachine);
        test("9: BAD: GOAL 1: m", EdgesOfRows::roomNoMachine);
        test("9: BAD: GOAL 1: a, b", EdgesOfRows::roomOutside);
        test("9: BAD: 2: a 1 .. 5", EdgesOfRows::fewOutside);
        test("9: GOAL 0: a, b are not asked for", EdgesOfRows::emptyNotLookedAt);
        test("9: GOAL 2: m, b are not asked for", EdgesOfRows::fewNotLookedAt);
        test("9: EMPTY: nothing stands on MACHINE m: it is so", EdgesOfRows::emptyIsSo);
        test("9: EMPTY: what has no NEEDS stands there too", EdgesOfRows::emptyOfNoNeeds);
        test("9: EMPTY: the first and the last MACHINE", EdgesOfRows::emptyFirstAndLast);
        test("9: EMPTY: the others have just room, or one too little", EdgesOfRows::emptyJustFits);
        test("9: ROOM: 0 and 0", EdgesOfRows::leastRoom);
        test("9: ROOM: 1000 and 1000", EdgesOfRows::mostRoom);
        test("9: ROOM: just as much as is free, and one more: a", EdgesOfRows::roomFirst);
        test("9: ROOM: just as much as is free, and one more: b", EdgesOfRows::roomSecond);
        test("9: ROOM: one more than the MACHINE has", EdgesOfRows::roomTooMuch);
        test("9: FEW: 1", EdgesOfRows::fewLeast);
        test("9: FEW: 5", EdgesOfRows::fewMost);
        test("9: FEW: just as many, and one less", EdgesOfRows::fewJust);
        test("9: a PLAN without WORKS", EdgesOfRows::planOfNothing);
        test("9: a PLAN when all WORKS have ended", EdgesOfRows::planOfEnded);
        test("9: MOVES: all eight WORKS", EdgesOfRows::planOfEight);
        test("9: MOVES: eight FRIENDS are one BLOCK", EdgesOfRows::planOfFriends);
        test("9: with STUCK ones where they stand", EdgesOfRows::planStuck);
        test("9: the first ROW: of like ones by what WORK 7 has", EdgesOfRows::firstByTheLast);
        test("9: NONE: then there is no PLAN", EdgesOfRows::noneLeavesNoPlan);
        test("9: when it is refused, there is no PLAN: BAD", EdgesOfRows::badLeavesNoPlan);
        test("9: when it is refused, there is no PLAN: SPENT", EdgesOfRows::spentLeavesNoPlan);
        test("9: SPENT: not with 200000", EdgesOfRows::planOfAllTries);
        test("9: a PLAN changes nothing else", EdgesOfRows::planChangesNothingElse);
        test("10: BAD: no WORK", EdgesOfRows::planAtNoWork);
        test("10: NONE: ended: WORK 0, in the first PLAN", EdgesOfRows::planAtFirstEnded);
        test("10: NONE: ended: the last WORK", EdgesOfRows::planAtLastEnded);
        test("10: NO: there is no PLAN, ended or not", EdgesOfRows::planAtNoPlan);
        test("11: TRIES before any search", EdgesOfRows::triesBefore);
        test("11: TRIES of a search without WORKS", EdgesOfRows::triesOfNothing);
        test("11: SPENT: 200000", EdgesOfRows::triesSpent);
        test("11: of the latest that searched: not one refused", EdgesOfRows::triesRefused);
        test("11: of fewest() or plan(): of no other", EdgesOfRows::triesOfNoOther);
        test("11: a TRY if NEEDS are within ROOMS: the first", EdgesOfRows::triesFirstNeed);
        test("11: a TRY if NEEDS are within ROOMS: the second", EdgesOfRows::triesSecondNeed);
        test("11: a TRY if NEEDS of those given so far, with it, are within ROOMS", EdgesOfRows::triesTogether);
        test("11: a TRY if TWINS of those are apart", EdgesOfRows::triesTwins);
        test("11: a TRY if FRIENDS are together", EdgesOfRows::triesFriends);
        test("11: a TRY if a STUCK one stands where it does", EdgesOfRows::triesStuck);
        test("11: a TRY if the GOAL holds: EMPTY", EdgesOfRows::triesEmpty);
        test("11: a TRY if the GOAL holds: ROOM, just as much", EdgesOfRows::triesRoom);
        test("11: a TRY if the GOAL holds: ROOM, whatever MACHINE it is that is given", EdgesOfRows::triesRoomElsewhere);
        test("11: a TRY if the GOAL holds: FEW", EdgesOfRows::triesFew);
        test("11: those that have ended are given nothing", EdgesOfRows::triesEnded);
        end();
    }

    /** A mover with works whose needs are alike, each on the machine told. */
    private static MachineMover standing(int[] rooms, int[] needs, int[] stand) {
        MachineMover x = machines(rooms);
        for (int work = 0; work < needs.length; work++) {
            plain(x, needs[work], stand[work]);
        }
        return x;
    }

    /** How often a work can be given a machine with room for it, of plain works from one on. */
    private static int givings(int[] left, int[] needs, int from) {
        int count = 0;
        for (int machine = 0; machine < left.length && from < needs.length; machine++) {
            if (needs[from] <= left[machine]) {
                left[machine] -= needs[from];
                count += 1 + givings(left, needs, from + 1);
                left[machine] += needs[from];
            }
        }
        return count;
    }

    /** Eight small works on five machines: 488280 tries, or 87380 when one machine is to be empty. */
    private static MachineMover tooMany() {
        return standing(new int[] {10, 10, 10, 10, 10}, new int[] {1, 1, 1, 1, 1, 1, 1, 1}, new int[8]);
    }

    private static void fewestOfNothing() {
        MachineMover x = new MachineMover();
        due("without machines", x.fewest(), 0);
        x.machine(10, 10);
        due("without works", x.fewest(), 0);
    }

    private static void fewestOfEnded() {
        MachineMover x = machines(5, 5);
        works(x, 5, BRIEF, 2, 0);
        works(x, 5, BRIEF, 1, 1);
        due("both stand", x.fewest(), 2);
        x.tick(1);
        due("one stands", x.fewest(), 1);
        x.tick(1);
        due("none stands", x.fewest(), 0);
    }

    private static void fewestJustFits() {
        for (int most = 9; most <= 10; most++) {
            MachineMover x = new MachineMover();
            x.machine(most, 20);
            x.machine(most, 20);
            x.work(6, 1, PLAIN, 0, 0);
            x.work(4, 1, PLAIN, 0, 1);
            due("a " + most, x.fewest(), most == 10 ? 1 : 2);
            MachineMover y = new MachineMover();
            y.machine(20, most);
            y.machine(20, most);
            y.work(1, 6, PLAIN, 0, 0);
            y.work(1, 4, PLAIN, 0, 1);
            due("b " + most, y.fewest(), most == 10 ? 1 : 2);
        }
    }

    private static void fewestTwins() {
        MachineMover x = machines(1, 1, 1, 1, 1);
        for (int machine = 0; machine < 5; machine++) {
            works(x, 0, TWIN, 2, machine);
        }
        due("five", x.fewest(), 5);
        due("each has one less to choose from", x.tries(), 5 + 20 + 60 + 120 + 120);
    }

    private static void fewestStuck() {
        MachineMover x = machines(10, 10, 10, 10, 10);
        for (int machine = 0; machine < 4; machine++) {
            works(x, 0, STUCK, 0, machine);
        }
        plain(x, 0, 4);
        due("four", x.fewest(), 4);
        works(x, 0, STUCK, 0, 4);
        due("five", x.fewest(), 5);
    }

    private static void fewestFriends() {
        for (int most = 9; most <= 10; most++) {
            MachineMover x = machines(most, most);
            works(x, 5, PLAIN, 0, 0);
            works(x, 2, FRIEND, 0, 1);
            works(x, 3, FRIEND, 0, 1);
            due("room " + most, x.fewest(), most == 10 ? 1 : 2);
        }
    }

    private static void fewestChangesNothing() {
        MachineMover x = machines(10, 10);
        plain(x, 1, 0);
        plain(x, 1, 1);
        due("planned", x.plan(EMPTY, 0, 0, 0), 1);
        long before = x.digest();
        due("both on one", x.fewest(), 1);
        due("nothing is changed", x.digest(), before);
        due("the plan stays", x.cost(), 2);
    }

    private static void allTries() {
        due("tries there are", givings(ROOMS_FOR_ALL_TRIES.clone(), NEEDS_FOR_ALL_TRIES, 0), 200000);
        MachineMover x = standing(ROOMS_FOR_ALL_TRIES, NEEDS_FOR_ALL_TRIES, STAND_FOR_ALL_TRIES);
        due("20 and 7 are enough for 25", x.fewest(), 2);
        due("tries", x.tries(), 200000);
    }

    private static void oneTryMore() {
        due("tries there are", givings(ROOMS_FOR_ONE_MORE.clone(), NEEDS_FOR_ONE_MORE, 0), 200001);
        MachineMover x = standing(ROOMS_FOR_ONE_MORE, NEEDS_FOR_ONE_MORE, STAND_FOR_ONE_MORE);
        due("spent", x.fewest(), SPENT);
        due("tries", x.tries(), 200000);
    }

    private static void spentFewestKeepsPlan() {
        MachineMover x = tooMany();
        due("planned", x.plan(EMPTY, 0, 0, 0), 8);
        long before = x.digest();
        due("spent", x.fewest(), SPENT);
        due("nothing is changed", x.digest(), before);
        due("the plan stays", x.cost(), 16);
        due("its order too", x.orderAt(7), 7);
    }

    private static void planGoalOutside() {
        MachineMover x = machines(10);
        for (int goal : new int[] {-1, LOW, 3, HIGH}) {
            refused(x, "goal " + goal, BAD, () -> x.plan(goal, 0, 1, 1));
        }
    }

    private static void emptyNoMachine() {
        MachineMover x = new MachineMover();
        refused(x, "no machines at all", BAD, () -> x.plan(EMPTY, 0, 0, 0));
        x.machine(10, 10);
        for (int machine : new int[] {-1, LOW, 1, 5, HIGH}) {
            refused(x, "machine " + machine, BAD, () -> x.plan(EMPTY, machine, 0, 0));
        }
    }

    private static void roomNoMachine() {
        MachineMover x = new MachineMover();
        refused(x, "no machines at all", BAD, () -> x.plan(ROOM, 0, 0, 0));
        x.machine(10, 10);
        for (int machine : new int[] {-1, LOW, 1, 5, HIGH}) {
            refused(x, "machine " + machine, BAD, () -> x.plan(ROOM, machine, 0, 0));
        }
    }

    private static void roomOutside() {
        MachineMover x = machines(10);
        for (int room : NOT_AN_AMOUNT) {
            refused(x, "a " + room, BAD, () -> x.plan(ROOM, 0, room, 1));
            refused(x, "b " + room, BAD, () -> x.plan(ROOM, 0, 1, room));
        }
    }

    private static void fewOutside() {
        MachineMover x = machines(10);
        for (int few : new int[] {0, -1, LOW, 6, HIGH}) {
            refused(x, "a " + few, BAD, () -> x.plan(FEW, 0, few, 1));
        }
    }

    private static void emptyNotLookedAt() {
        MachineMover x = machines(10, 10);
        plain(x, 1, 0);
        for (int any : NOT_AN_AMOUNT) {
            due("a " + any, x.plan(EMPTY, 0, any, 0), 1);
            due("b " + any, x.plan(EMPTY, 0, 0, any), 1);
        }
    }

    private static void fewNotLookedAt() {
        MachineMover x = machines(10, 10);
        plain(x, 1, 0);
        plain(x, 1, 1);
        for (int any : NOT_AN_AMOUNT) {
            due("m " + any, x.plan(FEW, any, 1, 0), 1);
            due("b " + any, x.plan(FEW, 0, 1, any), 1);
        }
    }

    private static void emptyIsSo() {
        MachineMover x = machines(10, 10);
        plain(x, 10, 0);
        due("no moves", x.plan(EMPTY, 1, 0, 0), 0);
        planned("as it stands", x, 0);
        due("no cost", x.cost(), 0);
    }

    private static void emptyOfNoNeeds() {
        MachineMover x = machines(0, 0);
        plain(x, 0, 0);
        due("it must go", x.plan(EMPTY, 0, 0, 0), 1);
        MachineMover y = machines(0);
        plain(y, 0, 0);
        due("it can't go", y.plan(EMPTY, 0, 0, 0), NONE);
    }

    private static void emptyFirstAndLast() {
        MachineMover x = machines(10, 10, 10, 10, 10);
        plain(x, 1, 0);
        plain(x, 1, 4);
        due("the first", x.plan(EMPTY, 0, 0, 0), 1);
        planned("to the next", x, 1, 4);
        due("the last", x.plan(EMPTY, 4, 0, 0), 1);
        planned("to the first", x, 0, 0);
    }

    private static void emptyJustFits() {
        MachineMover x = new MachineMover();
        x.machine(10, 10);
        x.machine(7, 10);
        x.machine(10, 7);
        x.work(4, 4, PLAIN, 0, 0);
        x.work(3, 1, STUCK, 0, 1);
        x.work(1, 3, STUCK, 0, 2);
        due("just room in a", x.plan(EMPTY, 0, 0, 0), 1);
        planned("where a just fits", x, 1);
        due("it goes", x.step(false), 0);
        due("a is full", x.free(1, 0), 0);
        due("just room in b", x.plan(ROOM, 1, 4, 0), 1);
        planned("back", x, 0);
        x.move(0, 0);
        x.work(1, 0, STUCK, 0, 1);
        due("one too little of a", x.plan(EMPTY, 0, 0, 0), 1);
        planned("where b just fits", x, 2);
        x.work(0, 1, STUCK, 0, 2);
        due("one too little of b too", x.plan(EMPTY, 0, 0, 0), NONE);
    }

    private static void leastRoom() {
        MachineMover x = machines(10);
        plain(x, 10, 0);
        due("of a full machine", x.plan(ROOM, 0, 0, 0), 0);
        MachineMover y = machines(0);
        due("of a machine without rooms", y.plan(ROOM, 0, 0, 0), 0);
    }

    private static void mostRoom() {
        MachineMover x = machines(1000, 1000, 999);
        plain(x, 1, 0);
        due("one must go", x.plan(ROOM, 0, 1000, 1000), 1);
        due("it goes", x.step(false), 0);
        due("all is free", x.plan(ROOM, 0, 1000, 1000), 0);
        due("not so large", x.plan(ROOM, 2, 1000, 1000), NONE);
        due("not so large in a alone", x.plan(ROOM, 2, 1000, 0), NONE);
        due("just so large", x.plan(ROOM, 2, 999, 999), 0);
    }

    private static void roomFirst() {
        MachineMover x = machines(10, 10);
        x.work(4, 1, PLAIN, 0, 0);
        due("as much as is free", x.plan(ROOM, 0, 6, 0), 0);
        due("one more", x.plan(ROOM, 0, 7, 0), 1);
    }

    private static void roomSecond() {
        MachineMover x = machines(10, 10);
        x.work(1, 4, PLAIN, 0, 0);
        due("as much as is free", x.plan(ROOM, 0, 0, 6), 0);
        due("one more", x.plan(ROOM, 0, 0, 7), 1);
    }

    private static void roomTooMuch() {
        MachineMover x = machines(10, 20);
        due("all of a and b, without works", x.plan(ROOM, 0, 10, 10), 0);
        due("one more of a, without works", x.plan(ROOM, 0, 11, 10), NONE);
        due("one more of b, without works", x.plan(ROOM, 0, 10, 11), NONE);
        plain(x, 1, 1);
        due("all of a and b", x.plan(ROOM, 0, 10, 10), 0);
        due("one more of a", x.plan(ROOM, 0, 11, 10), NONE);
        due("one more of b", x.plan(ROOM, 0, 10, 11), NONE);
    }

    private static void fewLeast() {
        MachineMover x = machines(2, 1);
        plain(x, 1, 0);
        plain(x, 1, 1);
        due("one machine takes both", x.plan(FEW, 0, 1, 0), 1);
        planned("on the larger", x, 0, 0);
        works(x, 0, STUCK, 0, 1);
        due("the smaller has a stuck one", x.plan(FEW, 0, 1, 0), NONE);
    }

    private static void fewMost() {
        MachineMover x = machines(1, 1, 1, 1, 1);
        for (int machine = 0; machine < 5; machine++) {
            plain(x, 1, machine);
        }
        due("five on five", x.plan(FEW, 0, 5, 0), 0);
        planned("as they stand", x, 0, 1, 2, 3, 4);
        due("five on four", x.plan(FEW, 0, 4, 0), NONE);
    }

    private static void fewJust() {
        MachineMover x = machines(2, 2, 2);
        plain(x, 1, 0);
        plain(x, 1, 1);
        plain(x, 1, 2);
        due("just as many", x.plan(FEW, 0, 3, 0), 0);
        due("one less", x.plan(FEW, 0, 2, 0), 1);
        planned("the first row of one move", x, 0, 0, 2);
        due("two less", x.plan(FEW, 0, 1, 0), NONE);
    }

    private static void planOfNothing() {
        MachineMover x = machines(10);
        due("empty", x.plan(EMPTY, 0, 0, 0), 0);
        due("cost", x.cost(), 0);
        due("order", x.order(), 1);
        due("orderAt", x.orderAt(0), NONE);
        due("third", x.third(), NO);
        due("byStop", x.byStop(), NO);
        due("step", x.step(false), NO);
        due("planAt", x.planAt(0), BAD);
    }

    private static void planOfEnded() {
        MachineMover x = machines(10, 10);
        works(x, 10, BRIEF, 1, 0);
        works(x, 10, BRIEF, 1, 1);
        due("no room", x.plan(EMPTY, 0, 0, 0), NONE);
        x.tick(1);
        due("all is empty", x.plan(EMPTY, 0, 0, 0), 0);
        due("tries", x.tries(), 0);
        planned("ended", x, NONE, NONE);
        due("all is free", x.plan(ROOM, 1, 10, 10), 0);
        due("cost", x.cost(), 0);
        due("step", x.step(false), NO);
    }

    private static void planOfEight() {
        MachineMover x = tooMany();
        due("eight moves", x.plan(EMPTY, 0, 0, 0), 8);
        planned("to the next", x, 1, 1, 1, 1, 1, 1, 1, 1);
        due("cost", x.cost(), 16);
        ordered("by their numbers", x, 0, 1, 2, 3, 4, 5, 6, 7);
    }

    private static void planOfFriends() {
        MachineMover x = machines(8, 7, 8);
        for (int work = 0; work < 8; work++) {
            works(x, 1, FRIEND, 0, 0);
        }
        due("one move", x.plan(EMPTY, 0, 0, 0), 1);
        planned("where all have room", x, 2, 2, 2, 2, 2, 2, 2, 2);
        due("all cost", x.cost(), 16);
        ordered("one block", x, 0);
    }

    private static void planStuck() {
        MachineMover x = machines(10, 10);
        works(x, 2, STUCK, 0, 0);
        plain(x, 3, 0);
        due("the stuck one is in the way", x.plan(EMPTY, 0, 0, 0), NONE);
        due("beside it", x.plan(ROOM, 0, 8, 8), 1);
        planned("the other goes", x, 0, 1);
        due("one more than beside it", x.plan(ROOM, 0, 9, 8), NONE);
    }

    private static void firstByTheLast() {
        MachineMover x = machines(8, 1, 1);
        for (int work = 0; work < 8; work++) {
            plain(x, 1, 0);
        }
        due("one of eight goes", x.plan(ROOM, 0, 1, 1), 1);
        planned("the last one goes to the first machine", x, 0, 0, 0, 0, 0, 0, 0, 1);
    }

    private static void noneLeavesNoPlan() {
        MachineMover x = machines(10, 5);
        plain(x, 6, 0);
        due("planned", x.plan(EMPTY, 1, 0, 0), 0);
        due("none", x.plan(EMPTY, 0, 0, 0), NONE);
        noPlan("it is gone", x);
    }

    private static void badLeavesNoPlan() {
        MachineMover x = machines(10, 10);
        plain(x, 6, 0);
        due("planned", x.plan(EMPTY, 0, 0, 0), 1);
        due("bad goal", x.plan(3, 0, 1, 1), BAD);
        noPlan("it is gone", x);
        due("planned", x.plan(EMPTY, 0, 0, 0), 1);
        due("bad machine", x.plan(EMPTY, 2, 1, 1), BAD);
        noPlan("it is gone", x);
        due("planned", x.plan(EMPTY, 0, 0, 0), 1);
        due("bad room", x.plan(ROOM, 0, 1, 1001), BAD);
        noPlan("it is gone", x);
        due("planned", x.plan(EMPTY, 0, 0, 0), 1);
        due("bad number of machines", x.plan(FEW, 0, 0, 0), BAD);
        noPlan("it is gone", x);
    }

    private static void spentLeavesNoPlan() {
        MachineMover x = tooMany();
        due("planned", x.plan(EMPTY, 0, 0, 0), 8);
        due("spent", x.plan(FEW, 0, 5, 0), SPENT);
        noPlan("it is gone", x);
    }

    private static void planOfAllTries() {
        MachineMover x = standing(ROOMS_FOR_ALL_TRIES, NEEDS_FOR_ALL_TRIES, STAND_FOR_ALL_TRIES);
        due("200000", x.plan(ROOM, 0, 0, 0), 0);
        due("tries", x.tries(), 200000);
        planned("as they stand", x, STAND_FOR_ALL_TRIES);
        MachineMover y = standing(ROOMS_FOR_ONE_MORE, NEEDS_FOR_ONE_MORE, STAND_FOR_ONE_MORE);
        due("one more", y.plan(ROOM, 0, 0, 0), SPENT);
        due("tries", y.tries(), 200000);
        due("no plan, though a row had been found", y.order(), NO);
    }

    private static void planChangesNothingElse() {
        MachineMover x = machines(10, 10);
        plain(x, 6, 0);
        works(x, 1, BRIEF, 3, 0);
        due("planned", x.plan(EMPTY, 0, 0, 0), 2);
        places("nothing is moved", x, 0, 0);
        due("nothing is paid", x.count(6), 0);
        due("no time goes by", x.count(3), 0);
        due("nothing has ended", x.count(2), 0);
        due("no room is taken", x.free(1, 0), 10);
    }

    private static void planAtNoWork() {
        MachineMover x = machines(10, 10);
        due("no works, no plan", x.planAt(0), BAD);
        plain(x, 1, 0);
        for (int work : new int[] {-1, LOW, 1, 7, 8, HIGH}) {
            due("no plan, work " + work, x.planAt(work), BAD);
        }
        x.plan(EMPTY, 0, 0, 0);
        for (int work : new int[] {-1, LOW, 1, 7, 8, HIGH}) {
            due("a plan, work " + work, x.planAt(work), BAD);
        }
        due("a plan", x.planAt(0), 1);
    }

    private static void planAtFirstEnded() {
        MachineMover x = machines(10, 10);
        works(x, 1, BRIEF, 1, 0);
        plain(x, 1, 0);
        x.tick(1);
        due("planned", x.plan(EMPTY, 0, 0, 0), 1);
        planned("the first ended", x, NONE, 1);
    }

    private static void planAtLastEnded() {
        MachineMover x = machines(10, 10);
        for (int work = 0; work < 7; work++) {
            plain(x, 1, 0);
        }
        works(x, 1, BRIEF, 1, 1);
        due("planned before", x.plan(EMPTY, 1, 0, 0), 1);
        due("it moves", x.planAt(7), 0);
        x.tick(1);
        due("planned", x.plan(EMPTY, 1, 0, 0), 0);
        planned("the last ended", x, 0, 0, 0, 0, 0, 0, 0, NONE);
    }

    private static void planAtNoPlan() {
        MachineMover x = machines(10, 10);
        plain(x, 1, 0);
        works(x, 1, BRIEF, 1, 0);
        due("it stands", x.planAt(0), NO);
        due("it stands", x.planAt(1), NO);
        x.tick(1);
        due("ended", x.planAt(1), NO);
    }

    private static void triesBefore() {
        MachineMover x = new MachineMover();
        due("new", x.tries(), 0);
        x.machine(10, 10);
        plain(x, 1, 0);
        due("nothing has searched", x.tries(), 0);
    }

    private static void triesOfNothing() {
        MachineMover x = machines(10, 10);
        works(x, 1, BRIEF, 1, 0);
        x.fewest();
        due("one work", x.tries(), 2);
        x.tick(1);
        x.fewest();
        due("none", x.tries(), 0);
    }

    private static void triesSpent() {
        MachineMover x = tooMany();
        x.fewest();
        due("fewest", x.tries(), 200000);
        x.plan(EMPTY, 4, 0, 0);
        due("not spent", x.tries(), 87380);
        x.plan(ROOM, 4, 0, 0);
        due("plan", x.tries(), 200000);
    }

    private static void triesRefused() {
        MachineMover x = machines(10, 10);
        plain(x, 1, 0);
        x.fewest();
        due("fewest", x.tries(), 2);
        x.plan(EMPTY, 0, 0, 0);
        due("plan", x.tries(), 1);
        due("refused", x.plan(EMPTY, 2, 0, 0), BAD);
        due("the plan's still", x.tries(), 1);
        x.fewest();
        due("refused", x.plan(3, 0, 0, 0), BAD);
        due("the fewest's still", x.tries(), 2);
        due("none", x.plan(ROOM, 0, 11, 0), NONE);
        due("none has searched too", x.tries(), 0);
    }

    private static void triesOfNoOther() {
        MachineMover x = machines(10, 10);
        plain(x, 1, 0);
        works(x, 1, BRIEF, 9, 0);
        x.plan(EMPTY, 0, 0, 0);
        due("planned", x.tries(), 2);
        x.wait(0);
        x.order();
        x.orderAt(0);
        x.third();
        x.byStop();
        x.step(false);
        x.move(1, 1);
        x.machine(10, 10);
        x.work(1, 1, PLAIN, 0, 0);
        x.tick(9);
        x.digest();
        due("still", x.tries(), 2);
    }

    /** Asks for fewest(), and for its tries. */
    private static void searched(String what, MachineMover x, int tries) {
        x.fewest();
        due(what, x.tries(), tries);
    }

    private static void triesFirstNeed() {
        MachineMover x = new MachineMover();
        x.machine(20, 20);
        x.machine(5, 20);
        x.machine(4, 20);
        x.work(5, 0, PLAIN, 0, 0);
        searched("just room on one, one too little on another", x, 2);
    }

    private static void triesSecondNeed() {
        MachineMover x = new MachineMover();
        x.machine(20, 20);
        x.machine(20, 5);
        x.machine(20, 4);
        x.work(0, 5, PLAIN, 0, 0);
        searched("just room on one, one too little on another", x, 2);
    }

    private static void triesTogether() {
        MachineMover x = machines(10, 6);
        plain(x, 4, 0);
        plain(x, 3, 0);
        plain(x, 3, 0);
        // 4 on 0: 3 and 3 fit on 0 and 1 in any way, 2 + 4; 4 on 1: 3 and 3 fit on 0 alone, 1 + 1.
        searched("with those given before, not those that come", x, 2 + (2 + 4) + (1 + 1));
    }

    private static void triesTwins() {
        MachineMover x = machines(10, 10, 10);
        works(x, 0, TWIN, 0, 0);
        works(x, 0, TWIN, 1, 0);
        works(x, 0, TWIN, 0, 1);
        searched("the third has two machines at each of nine", x, 3 + 9 + 18);
    }

    private static void triesFriends() {
        MachineMover x = machines(10, 10, 10);
        works(x, 0, FRIEND, 0, 0);
        works(x, 0, FRIEND, 1, 0);
        works(x, 0, FRIEND, 0, 0);
        searched("the third has one machine at each of nine", x, 3 + 9 + 9);
    }

    private static void triesStuck() {
        MachineMover x = machines(10, 10, 10);
        works(x, 0, STUCK, 0, 2);
        works(x, 0, PLAIN, 0, 0);
        works(x, 0, STUCK, 0, 0);
        searched("a stuck one has one machine", x, 1 + 3 + 3);
    }

    private static void triesEmpty() {
        MachineMover x = machines(10, 10, 10);
        works(x, 0, PLAIN, 0, 1);
        works(x, 0, STUCK, 0, 1);
        works(x, 0, PLAIN, 0, 0);
        due("none", x.plan(EMPTY, 1, 0, 0), NONE);
        due("the stuck one is met at the second", x.tries(), 2);
    }

    private static void triesRoom() {
        MachineMover x = machines(10, 10);
        x.work(3, 1, PLAIN, 0, 1);
        x.work(1, 3, PLAIN, 0, 1);
        x.plan(ROOM, 0, 6, 6);
        due("just as much as both leave", x.tries(), 2 + 4);
        x.plan(ROOM, 0, 7, 6);
        due("one more of a: not both", x.tries(), 2 + 3);
        x.plan(ROOM, 0, 6, 7);
        due("one more of b: not both", x.tries(), 2 + 3);
        x.plan(ROOM, 0, 8, 6);
        due("the first can't", x.tries(), 1 + 2);
    }

    private static void triesRoomElsewhere() {
        MachineMover x = machines(10, 10);
        plain(x, 1, 1);
        due("none", x.plan(ROOM, 0, 11, 0), NONE);
        due("not even where the other machine is given", x.tries(), 0);
        due("none", x.plan(ROOM, 0, 0, 11), NONE);
        due("nor for b", x.tries(), 0);
    }

    private static void triesFew() {
        MachineMover x = machines(10, 10, 10);
        works(x, 0, PLAIN, 0, 0);
        works(x, 0, PLAIN, 0, 1);
        works(x, 0, STUCK, 0, 2);
        due("both go to the stuck one", x.plan(FEW, 0, 1, 0), 2);
        due("both on one of three, the stuck one on the last", x.tries(), 3 + 3 + 1);
        x.plan(FEW, 0, 2, 0);
        // Of nine givings two do not: one on the first and one on the second, with the stuck one on the last.
        due("any two, the stuck one last", x.tries(), 3 + 9 + 7);
        x.plan(FEW, 0, 3, 0);
        due("any three", x.tries(), 3 + 9 + 9);
    }

    private static void triesEnded() {
        MachineMover x = machines(10, 10, 10);
        works(x, 0, BRIEF, 1, 0);
        works(x, 0, PLAIN, 0, 0);
        works(x, 0, BRIEF, 2, 0);
        searched("all stand", x, 3 + 9 + 27);
        x.tick(1);
        searched("the first has ended", x, 3 + 9);
        x.tick(1);
        searched("the last has too", x, 3);
    }
}
