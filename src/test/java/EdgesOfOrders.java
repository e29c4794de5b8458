/**
 * The edges of promises 12 to 17: what has just room at a step and what has not, plans without moves, rounds, the first
 * and the last of blocks and machines. Each sentence of the document that names one has a test of its own.
 */
public final class EdgesOfOrders extends Checks {
    public static void main(String[] args) {
        test("12: NO: there is none", EdgesOfOrders::costOfNone);
        test("12: a PLAN of no MOVES", EdgesOfOrders::costOfNoMoves);
        test("12: BLOCKS without NEEDS", EdgesOfOrders::costOfNoNeeds);
        test("12: NEEDS of 1000", EdgesOfOrders::costOfMost);
        test("12: both NEEDS of all in the BLOCK", EdgesOfOrders::costOfFriends);
        test("12: those that are not made yet, to the last", EdgesOfOrders::costNotMadeYet);
        test("13: NO", EdgesOfOrders::orderOfNone);
        test("13: a PLAN of no MOVES", EdgesOfOrders::orderOfNoMoves);
        test("13: room for the BLOCK with all that stands there then: just room", EdgesOfOrders::orderJustRoom);
        test("13: room for the BLOCK with all that stands there then: one too little", EdgesOfOrders::orderTooLittle);
        test("13: no TWIN of any of it stands there then", EdgesOfOrders::orderOfTwins);
        test("13: a TWIN of another group is in nobody's way", EdgesOfOrders::orderOfOtherTwins);
        test("13: it stands on both till it is over", EdgesOfOrders::orderOnBoth);
        test("14: THE ORDER is the first by numbers of BLOCKS: the second by number comes early", EdgesOfOrders::orderIsFirst);
        test("14: NONE: there is none", EdgesOfOrders::orderAtNone);
        test("14: NONE: it has not so many", EdgesOfOrders::orderAtBeyond);
        test("14: below 0 it has none", EdgesOfOrders::orderAtBelow);
        test("14: of those that are not made yet, to the last", EdgesOfOrders::orderAtNotMadeYet);
        test("14: NO", EdgesOfOrders::orderAtNoPlan);
        test("15: NO: there is no PLAN", EdgesOfOrders::thirdOfNone);
        test("15: NO: it has an ORDER", EdgesOfOrders::thirdOfOrdered);
        test("15: NONE: there is no third MACHINE", EdgesOfOrders::thirdOfTwoMachines);
        test("15: the third place has just room, or one too little", EdgesOfOrders::thirdJustRoom);
        test("15: at any time: when another has left the third place", EdgesOfOrders::thirdAtAnyTime);
        test("15: first, and later on: not the other way round", EdgesOfOrders::thirdComesFirst);
        test("15: a TWIN at the third place", EdgesOfOrders::thirdAtTwin);
        test("15: the first BLOCK, and MACHINE: 0 and 0", EdgesOfOrders::thirdLeast);
        test("15: the first BLOCK, and MACHINE: 7 and 4", EdgesOfOrders::thirdMost);
        test("15: the first BLOCK before the first MACHINE", EdgesOfOrders::thirdBlockBeforeMachine);
        test("15: ORDERS of all MOVES and that one: nine", EdgesOfOrders::thirdOfEight);
        test("15: of all eight WORKS, when a ninth was refused", EdgesOfOrders::thirdOfRefused);
        test("15: it changes nothing", EdgesOfOrders::thirdChangesNothing);
        test("16: NO: there is no PLAN", EdgesOfOrders::stopOfNone);
        test("16: NO: it has an ORDER", EdgesOfOrders::stopOfOrdered);
        test("16: NONE", EdgesOfOrders::noStop);
        test("16: that with the least NEEDS, both of all together: FRIENDS", EdgesOfOrders::stopOfFriends);
        test("16: of like ones the first", EdgesOfOrders::stopOfLike);
        test("16: a BLOCK without NEEDS helps nobody", EdgesOfOrders::stopOfNoNeeds);
        test("16: the last BLOCK", EdgesOfOrders::stopOfLast);
        test("16: it changes nothing", EdgesOfOrders::stopChangesNothing);
        test("17: NO: no PLAN", EdgesOfOrders::stepOfNone);
        test("17: NO: no ORDER", EdgesOfOrders::stepOfNoOrder);
        test("17: NO: no MOVE is left", EdgesOfOrders::stepOfNoMove);
        test("17: fails: it fails, and nothing changes", EdgesOfOrders::stepFails);
        test("17: all eight MOVES, to the last", EdgesOfOrders::stepsOfEight);
        end();
    }

    /**
     * To empty machine 0, works 0 and 3 must go to 1, and 1 and 2 change places; 1 has room for 2 as long as 0 has not
     * come. Turned, the first of rooms and needs is the second.
     */
    private static MachineMover chain(boolean turned, int zeroA, int zeroB, int oneA) {
        MachineMover x = new MachineMover();
        int[][] rooms = {{zeroA, zeroB}, {oneA, 7}, {4, 4}};
        int[][] works = {{2, 0, 0}, {4, 3, 1}, {3, 1, 2}, {0, 5, 0}};
        int first = turned ? 1 : 0;
        for (int[] room : rooms) {
            x.machine(room[first], room[1 - first]);
        }
        for (int[] work : works) {
            x.work(work[first], work[1 - first], PLAIN, 0, work[2]);
        }
        due("the chain is planned", x.plan(EMPTY, 0, 0, 0), 4);
        planned("the chain", x, 1, 2, 1, 1);
        return x;
    }

    /** Works 0 and 1 must change places on machines 1 and 2 so that 2 finds room, and but two machines are used. */
    private static MachineMover besideZero(int zeroA, int zeroB) {
        MachineMover x = new MachineMover();
        x.machine(zeroA, zeroB);
        x.machine(10, 9);
        x.machine(10, 5);
        x.machine(0, 5);
        x.work(6, 5, PLAIN, 0, 1);
        x.work(4, 2, PLAIN, 0, 2);
        x.work(0, 5, PLAIN, 0, 3);
        x.work(4, 0, STUCK, 0, 1);
        x.work(4, 0, STUCK, 0, 2);
        due("planned", x.plan(FEW, 0, 2, 0), 3);
        planned("beside 0", x, 2, 1, 1, 1, 2);
        return x;
    }

    /** All eight works must move to empty machine 2: 0 and 1 change places, then 2 finds room; five need nothing. */
    private static MachineMover eightWithRound() {
        MachineMover x = new MachineMover();
        x.machine(6, 9);
        x.machine(6, 5);
        x.machine(0, 5);
        x.work(6, 5, PLAIN, 0, 0);
        x.work(4, 2, PLAIN, 0, 1);
        x.work(0, 5, PLAIN, 0, 2);
        for (int k = 0; k < 5; k++) {
            x.work(0, 0, PLAIN, 0, 2);
        }
        due("planned", x.plan(EMPTY, 2, 0, 0), 8);
        planned("eight", x, 1, 0, 0, 0, 0, 0, 0, 0);
        return x;
    }

    /** Works 6 and 7 must change places; the others stay. */
    private static MachineMover lastSwap() {
        MachineMover x = machines(10, 10);
        for (int k = 0; k < 4; k++) {
            plain(x, 0, 0);
        }
        x.work(4, 0, STUCK, 0, 0);
        x.work(4, 0, STUCK, 0, 1);
        x.work(6, 6, PLAIN, 0, 0);
        x.work(4, 4, PLAIN, 0, 1);
        due("planned", x.plan(ROOM, 0, 2, 0), 2);
        planned("the last ones", x, 0, 0, 0, 0, 0, 1, 1, 0);
        return x;
    }

    /** Friends with ten needs, and a plain work that has to change places with them. */
    private static MachineMover friendsSwap(int secondNeed) {
        MachineMover x = new MachineMover();
        x.machine(10, 20);
        x.machine(10, 20);
        x.work(3, 3, FRIEND, 0, 0);
        x.work(4, secondNeed, PLAIN, 0, 1);
        x.work(2, 2, FRIEND, 0, 0);
        x.work(5, 0, STUCK, 0, 0);
        x.work(5, 0, STUCK, 0, 1);
        due("planned", x.plan(ROOM, 0, 1, 0), 2);
        planned("friends", x, 1, 0, 1);
        return x;
    }

    private static MachineMover eightToGo() {
        MachineMover x = machines(8, 8);
        for (int work = 0; work < 8; work++) {
            plain(x, 1, 0);
        }
        due("planned", x.plan(EMPTY, 0, 0, 0), 8);
        return x;
    }

    private static void costOfNone() {
        MachineMover x = machines(10, 10);
        refused(x, "without works", NO, x::cost);
        plain(x, 1, 0);
        refused(x, "with one", NO, x::cost);
        x.plan(EMPTY, 9, 0, 0);
        refused(x, "after a plan refused", NO, x::cost);
    }

    private static void costOfNoMoves() {
        MachineMover x = machines(10, 10);
        plain(x, 1, 0);
        x.plan(EMPTY, 1, 0, 0);
        asked(x, "as it stands", 0, x::cost);
    }

    private static void costOfNoNeeds() {
        MachineMover x = machines(0, 0);
        plain(x, 0, 0);
        plain(x, 0, 0);
        due("planned", x.plan(EMPTY, 0, 0, 0), 2);
        asked(x, "two moves", 0, x::cost);
    }

    private static void costOfMost() {
        MachineMover x = machines(1000, 1000);
        works(x, 1000, PLAIN, 0, 0);
        due("planned", x.plan(EMPTY, 0, 0, 0), 1);
        asked(x, "both needs", 2000, x::cost);
    }

    private static void costOfFriends() {
        MachineMover x = machines(20, 20);
        x.work(1, 2, FRIEND, 3, 0);
        x.work(0, 0, FRIEND, 2, 1);
        x.work(3, 0, FRIEND, 3, 0);
        x.work(0, 4, FRIEND, 3, 0);
        due("planned", x.plan(EMPTY, 0, 0, 0), 1);
        asked(x, "three friends", 1 + 2 + 3 + 4, x::cost);
    }

    private static void costNotMadeYet() {
        MachineMover x = machines(20, 20);
        plain(x, 1, 0);
        plain(x, 3, 0);
        x.plan(EMPTY, 0, 0, 0);
        due("both", x.cost(), 8);
        x.step(true);
        due("failed", x.cost(), 8);
        x.step(false);
        due("the last", x.cost(), 6);
        x.step(false);
        due("none", x.cost(), 0);
    }

    private static void orderOfNone() {
        MachineMover x = machines(10, 10);
        refused(x, "without works", NO, x::order);
        plain(x, 1, 0);
        x.plan(FEW, 0, 6, 0);
        refused(x, "after a plan refused", NO, x::order);
    }

    private static void orderOfNoMoves() {
        MachineMover x = machines(10, 10);
        plain(x, 10, 0);
        x.plan(FEW, 0, 1, 0);
        asked(x, "none to order", 1, x::order);
        MachineMover y = new MachineMover();
        y.plan(FEW, 0, 1, 0);
        asked(y, "no works, no machines", 1, y::order);
    }

    private static void orderJustRoom() {
        for (boolean turned : new boolean[] {false, true}) {
            ordered("4 and 3 in 7, turned " + turned, chain(turned, 2, 5, 7), 2, 1, 0, 3);
        }
    }

    private static void orderTooLittle() {
        for (boolean turned : new boolean[] {false, true}) {
            MachineMover x = chain(turned, 2, 5, 6);
            due("4 and 3 in 6, turned " + turned, x.order(), 0);
        }
    }

    private static void orderOfTwins() {
        MachineMover x = machines(10, 10, 3);
        works(x, 5, TWIN, 1, 0);
        works(x, 2, TWIN, 1, 1);
        due("planned", x.plan(EMPTY, 0, 0, 0), 2);
        planned("its twin makes way", x, 1, 2);
        ordered("its twin goes before", x, 1, 0);
        MachineMover y = machines(10, 10);
        works(y, 1, TWIN, 1, 0);
        works(y, 2, TWIN, 1, 1);
        due("they change places", y.plan(ROOM, 1, 9, 9), 2);
        due("neither can go before", y.order(), 0);
    }

    private static void orderOfOtherTwins() {
        MachineMover x = machines(10, 10, 3);
        works(x, 5, TWIN, 1, 0);
        works(x, 2, TWIN, 2, 1);
        works(x, 2, FRIEND, 1, 1);
        due("planned", x.plan(EMPTY, 0, 0, 0), 1);
        planned("there is room", x, 1, 1, 1);
        ordered("it goes", x, 0);
    }

    private static void orderOnBoth() {
        MachineMover x = swap(10, 10, 6, 4);
        due("two that leave room for each other when gone", x.order(), 0);
        MachineMover y = machines(10, 10);
        y.work(6, 1, PLAIN, 0, 0);
        y.work(4, 2, PLAIN, 0, 1);
        due("planned", y.plan(ROOM, 0, 0, 10), 1);
        ordered("6 and 4 in 10", y, 0);
    }

    private static void orderIsFirst() {
        MachineMover x = machines(10, 10, 5);
        plain(x, 6, 0);
        plain(x, 2, 0);
        plain(x, 5, 1);
        plain(x, 1, 0);
        due("planned", x.plan(EMPTY, 0, 0, 0), 4);
        planned("all but 2 to 1", x, 1, 1, 2, 1);
        // 1 could go at once; of the orders in which 2 goes before 0, that with 1 at the head is the first.
        ordered("0 can't be the first", x, 1, 2, 0, 3);
    }

    private static void orderAtNone() {
        MachineMover x = swap(10, 10, 6, 4);
        for (int i : new int[] {0, 1, 2, -1}) {
            asked(x, "i " + i, NONE, () -> x.orderAt(i));
        }
    }

    private static void orderAtBeyond() {
        MachineMover x = machines(10, 10);
        plain(x, 1, 0);
        plain(x, 1, 0);
        x.plan(EMPTY, 0, 0, 0);
        asked(x, "the last", 1, () -> x.orderAt(1));
        for (int i : new int[] {2, 7, 8, 9, HIGH}) {
            asked(x, "i " + i, NONE, () -> x.orderAt(i));
        }
    }

    private static void orderAtBelow() {
        MachineMover x = machines(10, 10);
        plain(x, 1, 0);
        x.plan(EMPTY, 0, 0, 0);
        asked(x, "-1", NONE, () -> x.orderAt(-1));
        asked(x, "far below", NONE, () -> x.orderAt(LOW));
        asked(x, "0", 0, () -> x.orderAt(0));
    }

    private static void orderAtNotMadeYet() {
        MachineMover x = chain(false, 2, 5, 7);
        int[] order = {2, 1, 0, 3};
        for (int made = 0; made < 4; made++) {
            for (int i = made; i < 4; i++) {
                due("made " + made + ", i " + (i - made), x.orderAt(i - made), order[i]);
            }
            due("made " + made + ", beyond", x.orderAt(4 - made), NONE);
            due("the next is made", x.step(false), order[made]);
        }
        due("none is left", x.orderAt(0), NONE);
        due("an order still", x.order(), 1);
    }

    private static void orderAtNoPlan() {
        MachineMover x = machines(10, 10);
        plain(x, 1, 0);
        refused(x, "0", NO, () -> x.orderAt(0));
        refused(x, "-1", NO, () -> x.orderAt(-1));
        refused(x, "beyond", NO, () -> x.orderAt(HIGH));
    }

    private static void thirdOfNone() {
        MachineMover x = machines(10, 10, 10);
        refused(x, "without works", NO, x::third);
        plain(x, 1, 0);
        refused(x, "with one", NO, x::third);
        MachineMover y = swap(10, 10, 6, 4);
        y.machine(10, 10);
        due("a plan without an order", y.third(), 0 * 8 + 2);
        y.plan(EMPTY, 3, 0, 0);
        refused(y, "after a plan refused", NO, y::third);
    }

    private static void thirdOfOrdered() {
        MachineMover x = machines(10, 10, 10);
        plain(x, 1, 0);
        x.plan(EMPTY, 0, 0, 0);
        refused(x, "a move", NO, x::third);
        x.step(false);
        refused(x, "no move is left", NO, x::third);
        x.plan(EMPTY, 0, 0, 0);
        refused(x, "no moves", NO, x::third);
    }

    private static void thirdOfTwoMachines() {
        MachineMover x = swap(10, 10, 6, 4);
        asked(x, "neither where it stands, nor where it shall", NONE, x::third);
    }

    private static void thirdJustRoom() {
        MachineMover x = swap(10, 10, 6, 4);
        x.machine(3, 4);
        asked(x, "one too little of a", NONE, x::third);
        x.machine(4, 3);
        asked(x, "one too little of b", NONE, x::third);
        x.machine(4, 4);
        asked(x, "just room", 1 * 8 + 4, x::third);
    }

    private static void thirdAtAnyTime() {
        for (boolean turned : new boolean[] {false, true}) {
            due("full but for 0, which goes", chain(turned, 3, 6, 6).third(), 2 * 8 + 0);
            due("one too little when 0 has gone", chain(turned, 2, 6, 6).third(), NONE);
            due("one too little beside 3, which stays", chain(turned, 3, 5, 6).third(), NONE);
        }
    }

    /**
     * Work 0 must leave 4 before 6 has room there, and 6 must leave 0 before 0 has room there: so 0 can go to 0 after it
     * has been where it shall, but not before.
     */
    private static void thirdComesFirst() {
        MachineMover x = machines(8, 6, 8, 6, 5);
        int[] needs = {4, 5, 1, 4, 1, 3, 5, 3};
        int[] stand = {4, 3, 1, 1, 1, 0, 0, 2};
        for (int work = 0; work < 8; work++) {
            plain(x, needs[work], stand[work]);
        }
        due("planned", x.plan(ROOM, 0, 6, 6), 7);
        planned("seven", x, 2, 1, 0, 2, 1, 3, 4, 3);
        due("no order", x.order(), 0);
        due("not 0 to 0", x.third(), 1 * 8 + 0);
    }

    private static void thirdAtTwin() {
        MachineMover x = machines(8, 8, 8);
        works(x, 2, TWIN, 1, 0);
        works(x, 1, TWIN, 1, 1);
        works(x, 4, STUCK, 0, 0);
        works(x, 0, TWIN, 1, 2);
        due("planned", x.plan(ROOM, 0, 3, 3), 2);
        planned("two change places, the third stays", x, 1, 0, 0, 2);
        asked(x, "room, but a twin", NONE, x::third);
        x.machine(2, 2);
        asked(x, "just room, and no twin", 0 * 8 + 3, x::third);
    }

    private static void thirdLeast() {
        MachineMover x = besideZero(6, 5);
        asked(x, "just room for 0", 0 * 8 + 0, x::third);
        due("one too little of a for 0", besideZero(5, 5).third(), 1 * 8 + 0);
        due("one too little of b for 0", besideZero(6, 4).third(), 1 * 8 + 0);
        due("too little for both", besideZero(3, 5).third(), NONE);
    }

    private static void thirdMost() {
        MachineMover x = lastSwap();
        x.machine(0, 0);
        x.machine(0, 0);
        asked(x, "no room", NONE, x::third);
        x.machine(4, 4);
        asked(x, "the last by the last", 7 * 8 + 4, x::third);
        refused(x, "a ninth work", FULL, () -> x.work(0, 0, PLAIN, 0, 4));
        asked(x, "the last still", 7 * 8 + 4, x::third);
    }

    private static void thirdBlockBeforeMachine() {
        MachineMover x = swap(10, 10, 6, 4);
        x.machine(4, 4);
        asked(x, "1 by 2", 1 * 8 + 2, x::third);
        x.machine(6, 6);
        asked(x, "0 by 3", 0 * 8 + 3, x::third);
        x.machine(6, 6);
        asked(x, "still 0 by 3", 0 * 8 + 3, x::third);
    }

    private static void thirdOfRefused() {
        MachineMover x = eightWithRound();
        refused(x, "a ninth work", FULL, () -> x.work(0, 0, PLAIN, 0, 0));
        asked(x, "no third place", NONE, x::third);
        asked(x, "the lesser of the round", 1, x::byStop);
    }

    private static void thirdOfEight() {
        MachineMover x = eightWithRound();
        due("no order", x.order(), 0);
        asked(x, "no place", NONE, x::third);
        x.machine(4, 2);
        asked(x, "just room for 1", 1 * 8 + 3, x::third);
        x.machine(6, 5);
        asked(x, "just room for 0", 0 * 8 + 4, x::third);
    }

    private static void thirdChangesNothing() {
        MachineMover x = swap(10, 10, 6, 4);
        x.machine(6, 6);
        asked(x, "third", 0 * 8 + 2, x::third);
        places("as they stood", x, 0, 1);
        planned("as planned", x, 1, 0);
        due("no step", x.step(false), NO);
    }

    private static void stopOfNone() {
        MachineMover x = machines(10, 10);
        refused(x, "without works", NO, x::byStop);
        plain(x, 1, 0);
        refused(x, "with one", NO, x::byStop);
        MachineMover y = swap(10, 10, 6, 4);
        due("a plan without an order", y.byStop(), 1);
        y.plan(EMPTY, 3, 0, 0);
        refused(y, "after a plan refused", NO, y::byStop);
    }

    private static void stopOfOrdered() {
        MachineMover x = machines(10, 10);
        plain(x, 1, 0);
        x.plan(EMPTY, 0, 0, 0);
        refused(x, "a move", NO, x::byStop);
        x.step(false);
        refused(x, "no move is left", NO, x::byStop);
        x.plan(EMPTY, 0, 0, 0);
        refused(x, "no moves", NO, x::byStop);
    }

    /** A round on 0 and 1, and one on 2 and 3, so that 4 is empty: no one work stops both. */
    private static void noStop() {
        MachineMover x = machines(6, 5, 6, 5, 4);
        int[] needs = {5, 4, 5, 4, 2, 2};
        int[] stand = {0, 1, 2, 3, 4, 4};
        for (int work = 0; work < 6; work++) {
            plain(x, needs[work], stand[work]);
        }
        due("planned", x.plan(EMPTY, 4, 0, 0), 6);
        planned("two rounds", x, 1, 0, 3, 2, 0, 2);
        asked(x, "none", NONE, x::byStop);
    }

    private static void stopOfFriends() {
        due("one less than the friends", friendsSwap(5).byStop(), 1);
        due("one more than the friends", friendsSwap(7).byStop(), 0);
    }

    private static void stopOfLike() {
        due("as much as the friends", friendsSwap(6).byStop(), 0);
        MachineMover x = machines(7, 7);
        x.work(5, 3, PLAIN, 0, 0);
        x.work(3, 5, PLAIN, 0, 1);
        works(x, 2, STUCK, 0, 0);
        works(x, 2, STUCK, 0, 1);
        due("planned", x.plan(ROOM, 0, 2, 0), 2);
        asked(x, "two alone", 0, x::byStop);
    }

    private static void stopOfNoNeeds() {
        MachineMover x = eightWithRound();
        asked(x, "the lesser of the round", 1, x::byStop);
    }

    private static void stopOfLast() {
        MachineMover x = lastSwap();
        asked(x, "7", 7, x::byStop);
        refused(x, "a ninth work", FULL, () -> x.work(0, 0, PLAIN, 0, 1));
        asked(x, "7 still", 7, x::byStop);
    }

    private static void stopChangesNothing() {
        MachineMover x = swap(10, 10, 6, 4);
        asked(x, "stop", 1, x::byStop);
        places("as they stood", x, 0, 1);
        planned("as planned", x, 1, 0);
        due("still no step", x.step(false), NO);
    }

    private static void stepOfNone() {
        MachineMover x = machines(10, 10);
        refused(x, "without works", NO, () -> x.step(false));
        plain(x, 1, 0);
        refused(x, "made", NO, () -> x.step(false));
        refused(x, "failed", NO, () -> x.step(true));
    }

    private static void stepOfNoOrder() {
        MachineMover x = swap(10, 10, 6, 4);
        refused(x, "made", NO, () -> x.step(false));
        refused(x, "failed", NO, () -> x.step(true));
        due("the plan stays", x.planAt(0), 1);
    }

    private static void stepOfNoMove() {
        MachineMover x = machines(10, 10);
        plain(x, 1, 0);
        x.plan(EMPTY, 1, 0, 0);
        refused(x, "there was none", NO, () -> x.step(false));
        x.plan(EMPTY, 0, 0, 0);
        due("the only one", x.step(false), 0);
        refused(x, "none is left", NO, () -> x.step(false));
        refused(x, "none is left to fail", NO, () -> x.step(true));
        due("the plan stays", x.planAt(0), 1);
    }

    private static void stepFails() {
        MachineMover x = chain(false, 2, 5, 7);
        for (int k = 0; k < 3; k++) {
            asked(x, "it fails", 2, () -> x.step(true));
        }
        due("it goes", x.step(false), 2);
        asked(x, "the next fails", 1, () -> x.step(true));
        places("one has gone", x, 0, 1, 1, 0);
    }

    private static void stepsOfEight() {
        MachineMover x = eightToGo();
        for (int work = 0; work < 8; work++) {
            due("it goes", x.step(false), work);
            due("it went", x.about(work, 0), 1);
            due("paid", x.count(6), 2 * (work + 1));
            due("left", x.cost(), 2 * (7 - work));
        }
        due("none is left", x.step(false), NO);
        due("the machine is empty", x.free(0, 2), 0);
    }
}
