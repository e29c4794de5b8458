/**
 * The edges of promises 1 to 7 and 20: numbers too small and too large, what is empty or full, calls that are refused.
 * Each sentence of the document that names one has a test of its own.
 */
public final class EdgesOfNumbers extends Checks {
    // A number that is out of bounds is tried just beyond them, and as far beyond as can be.
    private static final int[] NOT_AN_AMOUNT = {-1, LOW, 1001, HIGH};
    private static final int[] NOT_A_GROUP = {-1, LOW, 4, HIGH};

    public static void main(String[] args) {
        test("1: No MACHINES; PRICE 10; TICK 0", EdgesOfNumbers::newObject);
        test("1: a new object, asked all there is to ask", EdgesOfNumbers::newObjectAsked);
        test("2: two ROOMS (0 .. 1000 each), too small, too large", EdgesOfNumbers::roomsOutside);
        test("2: ROOMS of 0", EdgesOfNumbers::leastRooms);
        test("2: ROOMS of 1000", EdgesOfNumbers::mostRooms);
        test("2: MACHINES 0 .. 4, as they come; FULL: 5", EdgesOfNumbers::machinesFull);
        test("2: BAD before FULL", EdgesOfNumbers::machineBadBeforeFull);
        test("3: two NEEDS (0 .. 1000 each), too small, too large", EdgesOfNumbers::needsOutside);
        test("3: NEEDS of 0", EdgesOfNumbers::leastNeeds);
        test("3: NEEDS of 1000", EdgesOfNumbers::mostNeeds);
        test("3: a KIND, 0 to 4, too small, too large", EdgesOfNumbers::kindOutside);
        test("3: a KIND, 0 to 4", EdgesOfNumbers::kinds);
        test("3: TWIN of a group 0 .. 3, too small, too large", EdgesOfNumbers::twinGroupOutside);
        test("3: TWIN of a group 0 .. 3", EdgesOfNumbers::twinGroups);
        test("3: FRIEND of a group 0 .. 3, too small, too large", EdgesOfNumbers::friendGroupOutside);
        test("3: FRIEND of a group 0 .. 3", EdgesOfNumbers::friendGroups);
        test("3: g: else not looked at", EdgesOfNumbers::groupNotLookedAt);
        test("3: of BRIEF the TICK, above that which is, at the beginning", EdgesOfNumbers::briefAtFirst);
        test("3: of BRIEF the TICK, above that which is, later", EdgesOfNumbers::briefLater);
        test("3: of BRIEF the TICK, as late as can be", EdgesOfNumbers::briefLast);
        test("3: a WORK on a MACHINE: no MACHINE has come", EdgesOfNumbers::workWithoutMachines);
        test("3: a WORK on a MACHINE: one that has not come", EdgesOfNumbers::workOnNoMachine);
        test("3: NO: it would not be RIGHT: the first of the NEEDS", EdgesOfNumbers::workFirstNeed);
        test("3: NO: it would not be RIGHT: the second of the NEEDS", EdgesOfNumbers::workSecondNeed);
        test("3: NO: it would not be RIGHT: NEEDS of all together", EdgesOfNumbers::workAllTogether);
        test("3: NO: it would not be RIGHT: TWINS are apart", EdgesOfNumbers::workTwins);
        test("3: NO: it would not be RIGHT: FRIENDS together", EdgesOfNumbers::workFriends);
        test("3: no two TWINS of a group on one MACHINE: five on five", EdgesOfNumbers::twinsOnAll);
        test("3: WORKS 0 .. 7, as they come; FULL: 8", EdgesOfNumbers::worksFull);
        test("3: FULL, when all have ended", EdgesOfNumbers::worksFullOfEnded);
        test("3: BAD before NO", EdgesOfNumbers::workBadBeforeNo);
        test("3: BAD before FULL", EdgesOfNumbers::workBadBeforeFull);
        test("3: NO before FULL", EdgesOfNumbers::workNoBeforeFull);
        test("3: THE PLAN goes, when one comes", EdgesOfNumbers::planGoesWhenOneComes);
        test("3: THE PLAN stays, when one is refused", EdgesOfNumbers::planStaysWhenRefused);
        test("4: BAD: no WORK", EdgesOfNumbers::moveNoWork);
        test("4: BAD: none that is told as a BLOCK", EdgesOfNumbers::moveNoBlock);
        test("4: BAD: ended", EdgesOfNumbers::moveEnded);
        test("4: BAD: no MACHINE", EdgesOfNumbers::moveNoMachine);
        test("4: NO: it is STUCK", EdgesOfNumbers::moveStuck);
        test("4: NO: it stands there", EdgesOfNumbers::moveStandsThere);
        test("4: NO: it would not be RIGHT: the first of the NEEDS", EdgesOfNumbers::moveFirstNeed);
        test("4: NO: it would not be RIGHT: the second of the NEEDS", EdgesOfNumbers::moveSecondNeed);
        test("4: NO: it would not be RIGHT: a TWIN stands there", EdgesOfNumbers::moveToTwin);
        test("4: NO: it would not be RIGHT: FRIENDS have no room together", EdgesOfNumbers::moveFriends);
        test("4: BAD before NO", EdgesOfNumbers::moveBadBeforeNo);
        test("4: THE PLAN goes", EdgesOfNumbers::planGoesWhenMoved);
        test("4: THE PLAN stays, when a MOVE is refused", EdgesOfNumbers::planStaysWhenNotMoved);
        test("5: a PRICE (0 .. 1000), too small, too large", EdgesOfNumbers::priceOutside);
        test("5: a PRICE (0 .. 1000)", EdgesOfNumbers::prices);
        test("6: BAD: no WORK", EdgesOfNumbers::aboutNoWork);
        test("6: BAD: what", EdgesOfNumbers::aboutWhat);
        test("6: NONE: ended", EdgesOfNumbers::aboutEnded);
        test("7: BAD: no MACHINE", EdgesOfNumbers::freeNoMachine);
        test("7: BAD: what", EdgesOfNumbers::freeWhat);
        test("7: of a MACHINE: empty, and full", EdgesOfNumbers::freeEmptyAndFull);
        test("20: BAD: what", EdgesOfNumbers::countWhat);
        test("20: how many: as many as there can be", EdgesOfNumbers::countMost);
        test("20: what all MOVES made cost: of those refused, failed, without NEEDS", EdgesOfNumbers::countCost);
        end();
    }

    private static void newObject() {
        MachineMover x = new MachineMover();
        due("machines", x.count(0), 0);
        due("works", x.count(1), 0);
        due("ended", x.count(2), 0);
        due("tick", x.count(3), 0);
        due("price", x.count(4), 10);
        due("in use", x.count(5), 0);
        due("cost", x.count(6), 0);
    }

    private static void newObjectAsked() {
        MachineMover x = new MachineMover();
        refused(x, "work", BAD, () -> x.work(0, 0, PLAIN, 0, 0));
        refused(x, "move", BAD, () -> x.move(0, 0));
        refused(x, "about", BAD, () -> x.about(0, 0));
        refused(x, "free", BAD, () -> x.free(0, 0));
        asked(x, "fewest", 0, x::fewest);
        refused(x, "plan to empty", BAD, () -> x.plan(EMPTY, 0, 0, 0));
        refused(x, "plan for room", BAD, () -> x.plan(ROOM, 0, 0, 0));
        refused(x, "planAt", BAD, () -> x.planAt(0));
        asked(x, "tries", 0, x::tries);
        refused(x, "wait", BAD, () -> x.wait(0));
        noPlan("new", x);
        due("digest", x.digest(), told(127, 0, 0, 0, 0, 10, 0, 0));
        due("a plan for few machines", x.plan(FEW, 0, 1, 0), 0);
        due("a plan of no moves", x.order(), 1);
        due("a tick", x.tick(1), 0);
    }

    private static void roomsOutside() {
        MachineMover x = machines(5);
        for (int room : NOT_AN_AMOUNT) {
            refused(x, "a " + room, BAD, () -> x.machine(room, 7));
            refused(x, "b " + room, BAD, () -> x.machine(7, room));
            refused(x, "both " + room, BAD, () -> x.machine(room, room));
        }
        due("the next is number 1 still", x.machine(7, 7), 1);
    }

    private static void leastRooms() {
        MachineMover x = new MachineMover();
        due("both 0", x.machine(0, 0), 0);
        due("a 0", x.machine(0, 1000), 1);
        due("b 0", x.machine(1000, 0), 2);
        refused(x, "no room for any need", NO, () -> x.work(1, 0, PLAIN, 0, 0));
        refused(x, "no room for any need", NO, () -> x.work(0, 1, PLAIN, 0, 0));
        refused(x, "no first room", NO, () -> x.work(1, 0, PLAIN, 0, 1));
        refused(x, "no second room", NO, () -> x.work(0, 1, PLAIN, 0, 2));
        due("what needs nothing stands anywhere", x.work(0, 0, PLAIN, 0, 0), 0);
        due("works", x.free(0, 2), 1);
    }

    private static void mostRooms() {
        MachineMover x = new MachineMover();
        due("both 1000", x.machine(1000, 1000), 0);
        due("a", x.free(0, 0), 1000);
        due("b", x.free(0, 1), 1000);
    }

    private static void machinesFull() {
        MachineMover x = new MachineMover();
        for (int k = 0; k < 5; k++) {
            due("one comes", x.machine(k, k), k);
        }
        refused(x, "a sixth", FULL, () -> x.machine(5, 5));
        refused(x, "a sixth without rooms", FULL, () -> x.machine(0, 0));
        due("the fifth stands", x.free(4, 0), 4);
        due("five", x.count(0), 5);
    }

    private static void machineBadBeforeFull() {
        MachineMover x = machines(1, 1, 1, 1, 1);
        refused(x, "a", BAD, () -> x.machine(1001, 0));
        refused(x, "b", BAD, () -> x.machine(0, -1));
    }

    private static void needsOutside() {
        MachineMover x = machines(1000);
        for (int need : NOT_AN_AMOUNT) {
            refused(x, "a " + need, BAD, () -> x.work(need, 7, PLAIN, 0, 0));
            refused(x, "b " + need, BAD, () -> x.work(7, need, PLAIN, 0, 0));
            refused(x, "both " + need, BAD, () -> x.work(need, need, PLAIN, 0, 0));
        }
        due("the next is number 0 still", x.work(7, 7, PLAIN, 0, 0), 0);
    }

    private static void leastNeeds() {
        MachineMover x = machines(1000);
        due("both 0", x.work(0, 0, PLAIN, 0, 0), 0);
        due("a 0", x.work(0, 1000, PLAIN, 0, 0), 1);
        due("b 0", x.work(1000, 0, PLAIN, 0, 0), 2);
        due("three stand", x.free(0, 2), 3);
    }

    private static void mostNeeds() {
        MachineMover x = machines(1000, 999);
        refused(x, "a machine of 999", NO, () -> x.work(1000, 1000, PLAIN, 0, 1));
        due("both 1000", x.work(1000, 1000, PLAIN, 0, 0), 0);
        due("a", x.about(0, 1), 1000);
        due("b", x.about(0, 2), 1000);
        due("a is full", x.free(0, 0), 0);
        due("b is full", x.free(0, 1), 0);
    }

    private static void kindOutside() {
        MachineMover x = machines(10);
        for (int kind : new int[] {-1, LOW, 5, HIGH}) {
            refused(x, "kind " + kind, BAD, () -> x.work(1, 1, kind, 1, 0));
        }
    }

    private static void kinds() {
        MachineMover x = machines(10);
        for (int kind = 0; kind <= 4; kind++) {
            due("kind " + kind, x.work(1, 1, kind, 1, 0), kind);
            due("kind " + kind, x.about(kind, 3), kind);
        }
    }

    private static void twinGroupOutside() {
        MachineMover x = machines(10);
        for (int group : NOT_A_GROUP) {
            refused(x, "group " + group, BAD, () -> x.work(1, 1, TWIN, group, 0));
        }
    }

    private static void twinGroups() {
        MachineMover x = machines(10);
        for (int group = 0; group <= 3; group++) {
            works(x, 1, TWIN, group, 0);
        }
        for (int group = 0; group <= 3; group++) {
            int again = group;
            refused(x, "one of group " + group + " stands", NO, () -> x.work(1, 1, TWIN, again, 0));
        }
    }

    private static void friendGroupOutside() {
        MachineMover x = machines(10);
        for (int group : NOT_A_GROUP) {
            refused(x, "group " + group, BAD, () -> x.work(1, 1, FRIEND, group, 0));
        }
    }

    private static void friendGroups() {
        MachineMover x = machines(10, 10);
        for (int group = 0; group <= 3; group++) {
            works(x, 1, FRIEND, group, 0);
        }
        for (int group = 0; group <= 3; group++) {
            int again = group;
            refused(x, "those of group " + group + " stand elsewhere", NO, () -> x.work(1, 1, FRIEND, again, 1));
            works(x, 1, FRIEND, group, 0);
            due("block of group " + group, x.about(4 + group, 4), group);
        }
    }

    private static void groupNotLookedAt() {
        int[] any = {-1, 4, LOW, HIGH};
        MachineMover x = machines(10);
        for (int k = 0; k < 4; k++) {
            due("plain, g " + any[k], x.work(1, 1, PLAIN, any[k], 0), 2 * k);
            due("stuck, g " + any[k], x.work(1, 1, STUCK, any[k], 0), 2 * k + 1);
        }
    }

    private static void briefAtFirst() {
        MachineMover x = machines(10);
        refused(x, "the tick that is", BAD, () -> x.work(1, 1, BRIEF, 0, 0));
        refused(x, "before", BAD, () -> x.work(1, 1, BRIEF, -1, 0));
        refused(x, "long before", BAD, () -> x.work(1, 1, BRIEF, LOW, 0));
        due("the next", x.work(1, 1, BRIEF, 1, 0), 0);
    }

    private static void briefLater() {
        MachineMover x = machines(10);
        x.tick(1000);
        refused(x, "the tick that is", BAD, () -> x.work(1, 1, BRIEF, 1000, 0));
        refused(x, "the last one", BAD, () -> x.work(1, 1, BRIEF, 999, 0));
        due("the next", x.work(1, 1, BRIEF, 1001, 0), 0);
    }

    private static void briefLast() {
        MachineMover x = machines(10);
        due("the last tick that can be told", x.work(1, 1, BRIEF, HIGH, 0), 0);
        due("none has ended", x.tick(1000), 0);
        due("it stands", x.about(0, 0), 0);
    }

    private static void workWithoutMachines() {
        MachineMover x = new MachineMover();
        refused(x, "machine 0", BAD, () -> x.work(0, 0, PLAIN, 0, 0));
        refused(x, "machine -1", BAD, () -> x.work(0, 0, PLAIN, 0, -1));
    }

    private static void workOnNoMachine() {
        MachineMover x = machines(10, 10);
        for (int machine : new int[] {-1, LOW, 2, 4, 5, HIGH}) {
            refused(x, "machine " + machine, BAD, () -> x.work(0, 0, PLAIN, 0, machine));
        }
        x.machine(10, 10);
        due("it has come", x.work(0, 0, PLAIN, 0, 2), 0);
        x.machine(10, 10);
        x.machine(10, 10);
        due("the last", x.work(0, 0, PLAIN, 0, 4), 1);
        refused(x, "beyond the last", BAD, () -> x.work(0, 0, PLAIN, 0, 5));
    }

    private static void workFirstNeed() {
        MachineMover x = new MachineMover();
        x.machine(10, 20);
        refused(x, "one too much", NO, () -> x.work(11, 0, PLAIN, 0, 0));
        due("just as much", x.work(10, 0, PLAIN, 0, 0), 0);
    }

    private static void workSecondNeed() {
        MachineMover x = new MachineMover();
        x.machine(20, 10);
        refused(x, "one too much", NO, () -> x.work(0, 11, PLAIN, 0, 0));
        due("just as much", x.work(0, 10, PLAIN, 0, 0), 0);
    }

    private static void workAllTogether() {
        MachineMover x = new MachineMover();
        x.machine(10, 20);
        x.work(4, 15, PLAIN, 0, 0);
        refused(x, "one too much of a", NO, () -> x.work(7, 5, PLAIN, 0, 0));
        refused(x, "one too much of b", NO, () -> x.work(6, 6, PLAIN, 0, 0));
        due("just as much of both", x.work(6, 5, PLAIN, 0, 0), 1);
        refused(x, "no more of a", NO, () -> x.work(1, 0, PLAIN, 0, 0));
        refused(x, "no more of b", NO, () -> x.work(0, 1, PLAIN, 0, 0));
    }

    private static void workTwins() {
        MachineMover x = machines(10, 10);
        works(x, 0, TWIN, 3, 0);
        refused(x, "its twin, without needs", NO, () -> x.work(0, 0, TWIN, 3, 0));
        due("a twin of another group", x.work(0, 0, TWIN, 2, 0), 1);
        due("a friend of the same number", x.work(0, 0, FRIEND, 3, 0), 2);
        due("its twin elsewhere", x.work(0, 0, TWIN, 3, 1), 3);
    }

    private static void workFriends() {
        MachineMover x = machines(10, 10);
        works(x, 0, FRIEND, 3, 1);
        refused(x, "its friend elsewhere, without needs", NO, () -> x.work(0, 0, FRIEND, 3, 0));
        due("a friend of another group", x.work(0, 0, FRIEND, 2, 0), 1);
        due("its friend there", x.work(0, 0, FRIEND, 3, 1), 2);
        due("moved", x.move(0, 0), 1);
        refused(x, "where they stood", NO, () -> x.work(0, 0, FRIEND, 3, 1));
        due("where they went", x.work(0, 0, FRIEND, 3, 0), 3);
    }

    private static void twinsOnAll() {
        MachineMover x = machines(1, 1, 1, 1, 1);
        for (int machine = 0; machine < 5; machine++) {
            works(x, 0, TWIN, 0, machine);
        }
        for (int machine = 0; machine < 5; machine++) {
            int there = machine;
            refused(x, "a sixth on " + machine, NO, () -> x.work(0, 0, TWIN, 0, there));
        }
    }

    private static void worksFull() {
        MachineMover x = machines(10, 10);
        for (int k = 0; k < 8; k++) {
            due("one comes", x.work(1, 1, PLAIN, 0, 0), k);
        }
        refused(x, "a ninth", FULL, () -> x.work(1, 1, PLAIN, 0, 0));
        refused(x, "a ninth elsewhere, without needs", FULL, () -> x.work(0, 0, BRIEF, 1, 1));
        due("the eighth stands", x.about(7, 0), 0);
        due("eight", x.count(1), 8);
    }

    private static void worksFullOfEnded() {
        MachineMover x = machines(10);
        for (int k = 0; k < 8; k++) {
            works(x, 1, BRIEF, 1, 0);
        }
        due("all end", x.tick(1), 8);
        refused(x, "a ninth", FULL, () -> x.work(1, 1, PLAIN, 0, 0));
        due("all eight are told", x.about(7, 5), 1);
    }

    private static void workBadBeforeNo() {
        MachineMover x = machines(10);
        works(x, 9, TWIN, 0, 0);
        refused(x, "group", BAD, () -> x.work(2, 2, TWIN, 4, 0));
        refused(x, "kind", BAD, () -> x.work(2, 2, 5, 0, 0));
        refused(x, "end", BAD, () -> x.work(2, 2, BRIEF, 0, 0));
        refused(x, "a need, above all rooms", BAD, () -> x.work(1001, 2, TWIN, 0, 0));
        refused(x, "machine", BAD, () -> x.work(2, 2, TWIN, 0, 1));
        refused(x, "none is bad", NO, () -> x.work(2, 2, PLAIN, 0, 0));
    }

    private static MachineMover eightWorks() {
        MachineMover x = machines(8, 10);
        for (int k = 0; k < 7; k++) {
            plain(x, 1, 0);
        }
        works(x, 1, TWIN, 0, 1);
        return x;
    }

    private static void workBadBeforeFull() {
        MachineMover x = eightWorks();
        refused(x, "a", BAD, () -> x.work(-1, 1, PLAIN, 0, 0));
        refused(x, "b", BAD, () -> x.work(1, 1001, PLAIN, 0, 0));
        refused(x, "kind", BAD, () -> x.work(1, 1, 5, 0, 0));
        refused(x, "group", BAD, () -> x.work(1, 1, FRIEND, 4, 0));
        refused(x, "end", BAD, () -> x.work(1, 1, BRIEF, 0, 0));
        refused(x, "machine", BAD, () -> x.work(1, 1, PLAIN, 0, 2));
    }

    private static void workNoBeforeFull() {
        MachineMover x = eightWorks();
        refused(x, "no room", NO, () -> x.work(2, 1, PLAIN, 0, 0));
        refused(x, "a twin is there", NO, () -> x.work(1, 1, TWIN, 0, 1));
        refused(x, "it would be right", FULL, () -> x.work(1, 1, TWIN, 0, 0));
    }

    private static void planGoesWhenOneComes() {
        MachineMover x = machines(10, 10);
        plain(x, 1, 0);
        due("planned", x.plan(EMPTY, 0, 0, 0), 1);
        due("one comes", x.work(0, 0, PLAIN, 0, 1), 1);
        noPlan("it is gone", x);
    }

    private static void planStaysWhenRefused() {
        MachineMover x = eightWorks();
        due("planned", x.plan(EMPTY, 1, 0, 0), 1);
        refused(x, "BAD", BAD, () -> x.work(0, 0, PLAIN, 0, 2));
        refused(x, "NO", NO, () -> x.work(9, 0, PLAIN, 0, 0));
        refused(x, "FULL", FULL, () -> x.work(0, 0, PLAIN, 0, 0));
        due("it stays", x.planAt(7), 0);
    }

    private static void moveNoWork() {
        MachineMover x = machines(10, 10);
        refused(x, "no works at all", BAD, () -> x.move(0, 1));
        plain(x, 1, 0);
        plain(x, 1, 0);
        for (int work : new int[] {-1, LOW, 2, 7, 8, HIGH}) {
            refused(x, "work " + work, BAD, () -> x.move(work, 1));
        }
        due("the last that came", x.move(1, 1), 1);
    }

    private static void moveNoBlock() {
        MachineMover x = machines(10, 10);
        works(x, 1, FRIEND, 0, 0);
        works(x, 1, FRIEND, 1, 0);
        works(x, 1, FRIEND, 0, 0);
        works(x, 1, FRIEND, 0, 0);
        refused(x, "the second of the group", BAD, () -> x.move(2, 1));
        refused(x, "the last of the group", BAD, () -> x.move(3, 1));
        due("the least of the group", x.move(0, 1), 1);
        refused(x, "the second of the group, moved", BAD, () -> x.move(2, 0));
        due("one of another group, alone", x.move(1, 1), 1);
    }

    private static void moveEnded() {
        MachineMover x = machines(10, 10);
        works(x, 1, BRIEF, 2, 0);
        works(x, 1, BRIEF, 3, 0);
        x.tick(1);
        due("it has not ended", x.move(0, 1), 1);
        x.tick(1);
        refused(x, "ended, where it stood", BAD, () -> x.move(0, 1));
        refused(x, "ended, elsewhere", BAD, () -> x.move(0, 0));
        due("another has not ended", x.move(1, 1), 1);
    }

    private static void moveNoMachine() {
        MachineMover x = machines(10, 10);
        plain(x, 1, 0);
        for (int machine : new int[] {-1, LOW, 2, 5, HIGH}) {
            refused(x, "machine " + machine, BAD, () -> x.move(0, machine));
        }
        due("the last that came", x.move(0, 1), 1);
        due("the first", x.move(0, 0), 1);
    }

    private static void moveStuck() {
        MachineMover x = machines(10, 10);
        works(x, 0, STUCK, 0, 0);
        refused(x, "elsewhere, with room", NO, () -> x.move(0, 1));
        refused(x, "where it stands", NO, () -> x.move(0, 0));
    }

    private static void moveStandsThere() {
        MachineMover x = machines(10, 10);
        plain(x, 1, 1);
        works(x, 1, FRIEND, 0, 0);
        works(x, 1, FRIEND, 0, 0);
        refused(x, "one alone", NO, () -> x.move(0, 1));
        refused(x, "friends", NO, () -> x.move(1, 0));
    }

    private static void moveFirstNeed() {
        MachineMover x = new MachineMover();
        x.machine(10, 10);
        x.machine(5, 10);
        x.work(3, 0, PLAIN, 0, 0);
        x.work(2, 0, PLAIN, 0, 0);
        x.work(3, 0, PLAIN, 0, 1);
        refused(x, "one too much", NO, () -> x.move(0, 1));
        due("just as much", x.move(1, 1), 1);
        due("full", x.free(1, 0), 0);
    }

    private static void moveSecondNeed() {
        MachineMover x = new MachineMover();
        x.machine(10, 10);
        x.machine(10, 5);
        x.work(0, 3, PLAIN, 0, 0);
        x.work(0, 2, PLAIN, 0, 0);
        x.work(0, 3, PLAIN, 0, 1);
        refused(x, "one too much", NO, () -> x.move(0, 1));
        due("just as much", x.move(1, 1), 1);
        due("full", x.free(1, 1), 0);
    }

    private static void moveToTwin() {
        MachineMover x = machines(10, 10, 10);
        works(x, 0, TWIN, 0, 0);
        works(x, 0, TWIN, 0, 1);
        works(x, 0, TWIN, 1, 2);
        refused(x, "its twin is there", NO, () -> x.move(0, 1));
        due("a twin of another group is there", x.move(1, 2), 1);
        due("its twin is there no more", x.move(0, 1), 1);
        refused(x, "its twin has gone there", NO, () -> x.move(0, 2));
        due("its twin was there", x.move(1, 0), 1);
    }

    private static void moveFriends() {
        for (int most = 7; most <= 8; most++) {
            MachineMover x = new MachineMover();
            x.machine(10, 10);
            x.machine(most, 10);
            x.machine(10, most);
            x.work(5, 4, FRIEND, 0, 0);
            x.work(3, 4, FRIEND, 0, 0);
            if (most == 7) {
                refused(x, "one too much of a", NO, () -> x.move(0, 1));
                refused(x, "one too much of b", NO, () -> x.move(0, 2));
            } else {
                due("just as much of a", x.move(0, 1), 1);
                due("just as much of b", x.move(0, 2), 1);
                due("both", x.free(2, 2), 2);
            }
        }
    }

    private static void moveBadBeforeNo() {
        MachineMover x = machines(10, 1);
        works(x, 2, STUCK, 0, 0);
        works(x, 2, FRIEND, 0, 0);
        works(x, 2, FRIEND, 0, 0);
        refused(x, "a stuck one, no machine", BAD, () -> x.move(0, 2));
        refused(x, "no block, stands there", BAD, () -> x.move(2, 0));
        refused(x, "no block, no room", BAD, () -> x.move(2, 1));
        refused(x, "none is bad", NO, () -> x.move(1, 1));
    }

    private static void planGoesWhenMoved() {
        MachineMover x = machines(10, 10, 10);
        plain(x, 1, 0);
        plain(x, 1, 1);
        due("planned", x.plan(EMPTY, 0, 0, 0), 1);
        due("another is moved", x.move(1, 2), 1);
        noPlan("it is gone", x);
        due("planned anew", x.plan(EMPTY, 0, 0, 0), 1);
        due("moved as planned", x.move(0, 1), 1);
        noPlan("it is gone", x);
    }

    private static void planStaysWhenNotMoved() {
        MachineMover x = machines(10, 10, 0);
        plain(x, 1, 0);
        due("planned", x.plan(EMPTY, 0, 0, 0), 1);
        refused(x, "BAD", BAD, () -> x.move(1, 1));
        refused(x, "NO: it stands there", NO, () -> x.move(0, 0));
        refused(x, "NO: no room", NO, () -> x.move(0, 2));
        due("it stays", x.planAt(0), 1);
    }

    private static void priceOutside() {
        MachineMover x = new MachineMover();
        for (int price : NOT_AN_AMOUNT) {
            refused(x, "price " + price, BAD, () -> x.price(price));
        }
        due("what it was", x.price(5), 10);
    }

    private static void prices() {
        MachineMover x = new MachineMover();
        due("what it was at first", x.price(0), 10);
        due("0", x.count(4), 0);
        due("what it was", x.price(1000), 0);
        due("1000", x.count(4), 1000);
        due("what it was", x.price(1000), 1000);
    }

    private static void aboutNoWork() {
        MachineMover x = machines(10);
        refused(x, "no works at all", BAD, () -> x.about(0, 0));
        plain(x, 1, 0);
        for (int work : new int[] {-1, LOW, 1, 7, 8, HIGH}) {
            for (int what = 0; what <= 5; what++) {
                due("work " + work + ", what " + what, x.about(work, what), BAD);
            }
        }
    }

    private static void aboutWhat() {
        MachineMover x = machines(10);
        plain(x, 1, 0);
        for (int what : new int[] {-1, LOW, 6, HIGH}) {
            due("what " + what, x.about(0, what), BAD);
            due("no work either, what " + what, x.about(1, what), BAD);
        }
        due("the least", x.about(0, 0), 0);
        due("the most", x.about(0, 5), 0);
    }

    private static void aboutEnded() {
        MachineMover x = machines(10, 10);
        x.work(3, 4, BRIEF, 2, 1);
        x.tick(1);
        int[] before = {1, 3, 4, BRIEF, 0, 0};
        for (int what = 0; what <= 5; what++) {
            due("the tick before, what " + what, x.about(0, what), before[what]);
        }
        x.tick(1);
        int[] ended = {NONE, 3, 4, BRIEF, NONE, 1};
        for (int what = 0; what <= 5; what++) {
            due("ended, what " + what, x.about(0, what), ended[what]);
        }
    }

    private static void freeNoMachine() {
        MachineMover x = new MachineMover();
        due("no machines at all", x.free(0, 0), BAD);
        x.machine(10, 10);
        for (int machine : new int[] {-1, LOW, 1, 4, 5, HIGH}) {
            for (int what = 0; what <= 2; what++) {
                due("machine " + machine + ", what " + what, x.free(machine, what), BAD);
            }
        }
    }

    private static void freeWhat() {
        MachineMover x = machines(10);
        for (int what : new int[] {-1, LOW, 3, HIGH}) {
            due("what " + what, x.free(0, what), BAD);
            due("no machine either, what " + what, x.free(1, what), BAD);
        }
    }

    private static void freeEmptyAndFull() {
        MachineMover x = new MachineMover();
        x.machine(3, 4);
        int[] empty = {3, 4, 0};
        for (int what = 0; what <= 2; what++) {
            due("empty, what " + what, x.free(0, what), empty[what]);
        }
        x.work(3, 4, BRIEF, 1, 0);
        int[] full = {0, 0, 1};
        for (int what = 0; what <= 2; what++) {
            due("full, what " + what, x.free(0, what), full[what]);
        }
        x.tick(1);
        for (int what = 0; what <= 2; what++) {
            due("empty again, what " + what, x.free(0, what), empty[what]);
        }
    }

    private static void countWhat() {
        MachineMover x = machines(10);
        for (int what : new int[] {-1, LOW, 7, HIGH}) {
            due("what " + what, x.count(what), BAD);
        }
        due("the least", x.count(0), 1);
        due("the most", x.count(6), 0);
    }

    private static void countMost() {
        MachineMover x = machines(10, 10, 10, 10, 10);
        for (int k = 0; k < 8; k++) {
            works(x, 1, BRIEF, 1, k % 5);
        }
        due("machines", x.count(0), 5);
        due("works", x.count(1), 8);
        due("in use", x.count(5), 5);
        x.tick(1);
        due("ended", x.count(2), 8);
        due("works, ended ones with them", x.count(1), 8);
        due("none in use", x.count(5), 0);
    }

    private static void countCost() {
        MachineMover x = machines(1000, 1000);
        x.work(0, 0, PLAIN, 0, 0);
        x.work(1000, 999, PLAIN, 0, 0);
        x.move(0, 1);
        due("without needs", x.count(6), 0);
        x.move(1, 0);
        due("refused", x.count(6), 0);
        due("planned", x.plan(EMPTY, 0, 0, 0), 1);
        due("planned costs nothing", x.count(6), 0);
        due("failed", x.step(true), 1);
        due("failed costs nothing", x.count(6), 0);
        due("made", x.step(false), 1);
        due("made costs both needs", x.count(6), 1999);
        x.move(1, 0);
        due("by hand too", x.count(6), 3998);
    }
}
