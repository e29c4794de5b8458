/** What each promise of ../shared/DOC.md asks, by hand: ordinary inputs, edges, wrong inputs. */
public final class PromiseTest extends Checks {
    public static void main(String[] args) {
        newObject();
        constants();
        machine();
        work();
        workRightness();
        workFull();
        move();
        moveOfFriends();
        price();
        about();
        free();
        fewest();
        fewestWithBonds();
        spentSearch();
        planWrongNumbers();
        planEmpty();
        planRoom();
        planFew();
        planFirstOfFewestMoves();
        planGoes();
        planAt();
        tries();
        cost();
        order();
        orderAt();
        orderOfTwins();
        third();
        thirdIsFirst();
        thirdInTheMiddle();
        thirdOfFriends();
        byStop();
        twoRounds();
        step();
        tick();
        waitWrong();
        waitLeast();
        waitForSeveral();
        waitLong();
        count();
        digest();
        end();
    }

    // Promise 1
    private static void newObject() {
        MachineMover x = new MachineMover();
        int[] counts = {0, 0, 0, 0, 10, 0, 0};
        for (int what = 0; what < counts.length; what++) {
            due("1: count(" + what + ")", x.count(what), counts[what]);
        }
        due("1: tries", x.tries(), 0);
        due("1: no plan", x.order(), NO);
        MachineMover y = new MachineMover();
        y.machine(1, 1);
        due("1: objects are apart", x.count(0), 0);
    }

    private static void constants() {
        due("NONE", MachineMover.NONE, NONE);
        due("BAD", MachineMover.BAD, BAD);
        due("NO", MachineMover.NO, NO);
        due("FULL", MachineMover.FULL, FULL);
        due("SPENT", MachineMover.SPENT, SPENT);
    }

    // Promise 2
    private static void machine() {
        MachineMover x = new MachineMover();
        due("2: below", x.machine(-1, 5), BAD);
        due("2: below, b", x.machine(5, -1), BAD);
        due("2: above", x.machine(1001, 5), BAD);
        due("2: above, b", x.machine(5, 1001), BAD);
        due("2: far above", x.machine(HIGH, LOW), BAD);
        due("2: none came", x.count(0), 0);
        due("2: least", x.machine(0, 0), 0);
        due("2: most", x.machine(1000, 1000), 1);
        due("2: third", x.machine(3, 4), 2);
        due("2: fourth", x.machine(3, 4), 3);
        due("2: fifth", x.machine(3, 4), 4);
        due("2: sixth", x.machine(3, 4), FULL);
        due("2: BAD goes before FULL", x.machine(3, 1001), BAD);
        due("2: five stand", x.count(0), 5);
        due("2: rooms", x.free(2, 0), 3);
        due("2: rooms, b", x.free(2, 1), 4);
        MachineMover y = machines(10, 10);
        plain(y, 2, 0);
        due("2: a plan", y.plan(EMPTY, 0, 0, 0), 1);
        due("2: a machine more", y.machine(5, 5), 2);
        due("2: the plan stays", y.planAt(0), 1);
    }

    // Promise 3
    private static void work() {
        MachineMover x = machines(1000, 1000);
        due("3: a below", x.work(-1, 0, PLAIN, 0, 0), BAD);
        due("3: b below", x.work(0, -1, PLAIN, 0, 0), BAD);
        due("3: a above", x.work(1001, 0, PLAIN, 0, 0), BAD);
        due("3: b above", x.work(0, 1001, PLAIN, 0, 0), BAD);
        due("3: kind below", x.work(0, 0, -1, 0, 0), BAD);
        due("3: kind above", x.work(0, 0, 5, 0, 0), BAD);
        due("3: twins' group below", x.work(0, 0, TWIN, -1, 0), BAD);
        due("3: twins' group above", x.work(0, 0, TWIN, 4, 0), BAD);
        due("3: friends' group below", x.work(0, 0, FRIEND, -1, 0), BAD);
        due("3: friends' group above", x.work(0, 0, FRIEND, 4, 0), BAD);
        due("3: no machine", x.work(0, 0, PLAIN, 0, 2), BAD);
        due("3: machine below", x.work(0, 0, PLAIN, 0, -1), BAD);
        due("3: end is now", x.work(0, 0, BRIEF, 0, 0), BAD);
        due("3: end is past", x.work(0, 0, BRIEF, -5, 0), BAD);
        due("3: none came", x.count(1), 0);
        due("3: g of plain is not looked at", x.work(0, 0, PLAIN, HIGH, 0), 0);
        due("3: g of stuck is not looked at", x.work(0, 0, STUCK, LOW, 0), 1);
        due("3: end as late as can be", x.work(0, 0, BRIEF, HIGH, 1), 2);
        due("3: end as soon as can be", x.work(0, 0, BRIEF, 1, 1), 3);
        due("3: groups to 3", x.work(0, 0, TWIN, 3, 1), 4);
        due("3: groups to 3", x.work(0, 0, FRIEND, 3, 1), 5);
        due("3: whole rooms", x.work(1000, 1000, PLAIN, 0, 1), 6);
        x.tick(4);
        due("3: end above the tick that is", x.work(0, 0, BRIEF, 4, 0), BAD);
        due("3: end above the tick that is", x.work(0, 0, BRIEF, 5, 0), 7);
    }

    private static void workRightness() {
        MachineMover x = new MachineMover();
        x.machine(10, 6);
        x.machine(10, 10);
        due("3: a has room", x.work(10, 2, PLAIN, 0, 0), 0);
        due("3: a has none", x.work(1, 0, PLAIN, 0, 0), NO);
        due("3: b has room", x.work(0, 4, PLAIN, 0, 0), 1);
        due("3: b has none", x.work(0, 1, PLAIN, 0, 0), NO);
        due("3: no needs", x.work(0, 0, TWIN, 0, 0), 2);
        due("3: twin with its like", x.work(0, 0, TWIN, 0, 0), NO);
        due("3: twin of another group", x.work(0, 0, TWIN, 1, 0), 3);
        due("3: twin apart", x.work(0, 0, TWIN, 0, 1), 4);
        due("3: friend first", x.work(0, 0, FRIEND, 0, 1), 5);
        due("3: friend apart", x.work(0, 0, FRIEND, 0, 0), NO);
        due("3: friend of another group", x.work(0, 0, FRIEND, 1, 0), 6);
        due("3: friend together", x.work(0, 0, FRIEND, 0, 1), 7);
        due("3: refused ones do not count", x.count(1), 8);
    }

    private static void workFull() {
        MachineMover x = machines(20);
        for (int k = 0; k < 8; k++) {
            works(x, 1, k == 0 ? BRIEF : PLAIN, 2, 0);
        }
        due("3: a ninth", x.work(1, 1, PLAIN, 0, 0), FULL);
        due("3: NO goes before FULL", x.work(20, 1, PLAIN, 0, 0), NO);
        due("3: BAD goes before FULL", x.work(1, 1, PLAIN, 0, 1), BAD);
        x.tick(2);
        due("3: ended ones keep their numbers", x.work(1, 1, PLAIN, 0, 0), FULL);
        due("3: eight", x.count(1), 8);
        due("3: seven stand", x.free(0, 2), 7);
    }

    // Promise 4
    private static void move() {
        MachineMover x = machines(10, 10, 4);
        plain(x, 5, 0);
        works(x, 1, STUCK, 0, 0);
        works(x, 1, BRIEF, 3, 0);
        works(x, 1, TWIN, 2, 0);
        works(x, 1, TWIN, 2, 2);
        due("4: no work", x.move(5, 1), BAD);
        due("4: work below", x.move(-1, 1), BAD);
        due("4: no machine", x.move(0, 3), BAD);
        due("4: machine below", x.move(0, -1), BAD);
        due("4: BAD goes before NO", x.move(1, 3), BAD);
        due("4: stuck", x.move(1, 1), NO);
        due("4: stands there", x.move(0, 0), NO);
        due("4: no room", x.move(0, 2), NO);
        due("4: a twin is there", x.move(3, 2), NO);
        due("4: refused ones cost nothing", x.count(6), 0);
        due("4: moved", x.move(0, 1), 1);
        due("4: a twin apart", x.move(3, 1), 1);
        places("4", x, 1, 0, 0, 1, 2);
        due("4: cost of both needs", x.count(6), 12);
        due("4: free anew", x.free(0, 0), 8);
        due("4: free no more", x.free(1, 1), 4);
        due("4: brief", x.move(2, 1), 1);
        x.tick(3);
        due("4: ended", x.move(2, 0), BAD);
        MachineMover y = new MachineMover();
        y.machine(10, 10);
        y.machine(10, 2);
        due("4: b alone", y.work(1, 3, PLAIN, 0, 0), 0);
        due("4: no room in b", y.move(0, 1), NO);
    }

    private static void moveOfFriends() {
        MachineMover x = machines(20, 6, 5);
        plain(x, 1, 0);
        works(x, 2, FRIEND, 1, 0);
        works(x, 3, FRIEND, 0, 0);
        works(x, 4, FRIEND, 1, 0);
        due("4: not told as a block", x.move(3, 1), BAD);
        due("4: no room for all together", x.move(1, 2), NO);
        due("4: room for all together", x.move(1, 1), 1);
        places("4: friends", x, 0, 1, 0, 1);
        due("4: all cost", x.count(6), 12);
        due("4: none is left over", x.free(1, 0), 0);
        due("4: another group stays", x.move(2, 2), 1);
        due("4: all cost", x.count(6), 18);
    }

    // Promise 5
    private static void price() {
        MachineMover x = new MachineMover();
        due("5: was", x.price(0), 10);
        due("5: was", x.price(1000), 0);
        due("5: below", x.price(-1), BAD);
        due("5: above", x.price(1001), BAD);
        due("5: was", x.price(7), 1000);
        due("5: is", x.count(4), 7);
    }

    // Promise 6
    private static void about() {
        MachineMover x = machines(20, 20);
        due("6: no work", x.about(0, 0), BAD);
        x.work(1, 2, FRIEND, 3, 1);
        x.work(3, 4, BRIEF, 2, 0);
        x.work(5, 6, FRIEND, 3, 1);
        x.work(0, 0, STUCK, 0, 0);
        int[][] told = {{1, 1, 2, FRIEND, 0, 0}, {0, 3, 4, BRIEF, 1, 0}, {1, 5, 6, FRIEND, 0, 0}, {0, 0, 0, STUCK, 3, 0}};
        for (int work = 0; work < told.length; work++) {
            for (int what = 0; what < 6; what++) {
                due("6: about(" + work + ", " + what + ")", x.about(work, what), told[work][what]);
            }
        }
        due("6: what below", x.about(0, -1), BAD);
        due("6: what above", x.about(0, 6), BAD);
        due("6: work below", x.about(-1, 0), BAD);
        due("6: work above", x.about(4, 0), BAD);
        x.tick(2);
        int[] ended = {NONE, 3, 4, BRIEF, NONE, 1};
        for (int what = 0; what < 6; what++) {
            due("6: ended, about(1, " + what + ")", x.about(1, what), ended[what]);
        }
    }

    // Promise 7
    private static void free() {
        MachineMover x = new MachineMover();
        due("7: no machine", x.free(0, 0), BAD);
        x.machine(10, 20);
        x.work(1, 2, PLAIN, 0, 0);
        x.work(3, 4, BRIEF, 1, 0);
        due("7: a", x.free(0, 0), 6);
        due("7: b", x.free(0, 1), 14);
        due("7: works", x.free(0, 2), 2);
        due("7: what below", x.free(0, -1), BAD);
        due("7: what above", x.free(0, 3), BAD);
        due("7: machine below", x.free(-1, 0), BAD);
        due("7: machine above", x.free(1, 0), BAD);
        x.tick(1);
        due("7: a when one has ended", x.free(0, 0), 9);
        due("7: b when one has ended", x.free(0, 1), 18);
        due("7: works when one has ended", x.free(0, 2), 1);
    }

    // Promise 8
    private static void fewest() {
        MachineMover x = machines(10, 10, 6);
        due("8: nothing stands", x.fewest(), 0);
        due("8: no tries", x.tries(), 0);
        plain(x, 4, 0);
        plain(x, 4, 1);
        plain(x, 2, 2);
        due("8: all on one", x.fewest(), 1);
        plain(x, 5, 1);
        due("8: on two", x.fewest(), 2);
        due("8: nothing is moved", x.about(1, 0), 1);
        due("8: nothing is paid", x.count(6), 0);
        MachineMover y = machines(10, 10);
        works(y, 0, STUCK, 0, 0);
        works(y, 0, STUCK, 0, 1);
        due("8: stuck ones without needs stand too", y.fewest(), 2);
        MachineMover z = machines(10, 10);
        works(z, 6, BRIEF, 1, 0);
        plain(z, 6, 1);
        due("8: two", z.fewest(), 2);
        z.tick(1);
        due("8: ended ones are of no account", z.fewest(), 1);
    }

    private static void fewestWithBonds() {
        MachineMover x = machines(10, 10, 10);
        works(x, 1, TWIN, 0, 0);
        works(x, 1, TWIN, 0, 1);
        works(x, 1, TWIN, 0, 2);
        due("8: twins are apart", x.fewest(), 3);
        MachineMover y = machines(6, 6, 5);
        works(y, 2, FRIEND, 0, 0);
        works(y, 3, FRIEND, 0, 0);
        plain(y, 4, 1);
        plain(y, 3, 2);
        // Apart, 2 + 4 and 3 + 3 would fill two machines; together the friends leave 1 on one, and 4 + 3 need two.
        due("8: friends are together", y.fewest(), 3);
        due("11: three machines for them, two for the next, one for the last", y.tries(), 3 + 3 + 6 + 6);
    }

    private static void spentSearch() {
        MachineMover x = machines(10, 10, 10, 10, 10);
        for (int k = 0; k < 8; k++) {
            plain(x, 1, 0);
        }
        due("9: a plan", x.plan(EMPTY, 1, 0, 0), 0);
        due("11: four machines, eight works", x.tries(), 4 + 16 + 64 + 256 + 1024 + 4096 + 16384 + 65536);
        due("8: spent", x.fewest(), SPENT);
        due("11: tries when spent", x.tries(), 200000);
        due("8: the plan stays", x.planAt(0), 0);
        due("9: less tries", x.plan(EMPTY, 1, 0, 0), 0);
        due("9: spent", x.plan(ROOM, 0, 0, 0), SPENT);
        due("11: tries when spent", x.tries(), 200000);
        due("9: no plan when spent", x.planAt(0), NO);
        MachineMover y = machines(10, 10, 10, 10, 10);
        for (int k = 0; k < 7; k++) {
            plain(y, 1, 0);
        }
        due("8: seven works are not too many", y.fewest(), 1);
        due("11: all of them", y.tries(), 5 + 25 + 125 + 625 + 3125 + 15625 + 78125);
    }

    // Promise 9
    private static void planWrongNumbers() {
        MachineMover x = machines(10, 10);
        plain(x, 1, 0);
        int[][] bad = {{-1, 0, 1, 1}, {3, 0, 1, 1}, {EMPTY, 2, 0, 0}, {EMPTY, -1, 0, 0}, {ROOM, 2, 1, 1}, {ROOM, -1, 1, 1},
            {ROOM, 0, -1, 1}, {ROOM, 0, 1, -1}, {ROOM, 0, 1001, 1}, {ROOM, 0, 1, 1001}, {FEW, 0, 0, 0}, {FEW, 0, 6, 0}};
        due("9: searched", x.fewest(), 1);
        for (int[] p : bad) {
            due("9: a plan at hand", x.plan(FEW, 0, 5, 0), 0);
            due("9: goal " + p[0] + " " + p[1] + " " + p[2] + " " + p[3], x.plan(p[0], p[1], p[2], p[3]), BAD);
            due("9: no plan when refused", x.order(), NO);
            due("11: a refused plan has not searched", x.tries(), 2);
        }
        due("9: a, b of EMPTY are not looked at", x.plan(EMPTY, 0, HIGH, LOW), 1);
        due("9: m, b of FEW are not looked at", x.plan(FEW, HIGH, 1, LOW), 0);
        due("9: rooms of 1000 are told rightly", x.plan(ROOM, 0, 1000, 1000), NONE);
        due("9: no plan after NONE", x.order(), NO);
    }

    private static void planEmpty() {
        MachineMover x = machines(10, 10, 10);
        plain(x, 6, 0);
        plain(x, 5, 1);
        plain(x, 1, 1);
        due("9: two moves", x.plan(EMPTY, 1, 0, 0), 2);
        planned("9: empty 1", x, 0, 2, 0);
        due("9: one move", x.plan(EMPTY, 0, 0, 0), 1);
        planned("9: empty 0", x, 2, 1, 1);
        due("9: is empty", x.plan(EMPTY, 2, 0, 0), 0);
        planned("9: empty 2", x, 0, 1, 1);
        works(x, 0, STUCK, 0, 0);
        due("9: a stuck one stays", x.plan(EMPTY, 0, 0, 0), NONE);
        due("9: on others too", x.plan(EMPTY, 1, 0, 0), 2);
        MachineMover y = machines(10);
        works(y, 0, PLAIN, 0, 0);
        due("9: what has no needs stands too", y.plan(EMPTY, 0, 0, 0), NONE);
    }

    private static void planRoom() {
        MachineMover x = new MachineMover();
        x.machine(10, 10);
        x.machine(10, 4);
        x.work(4, 2, PLAIN, 0, 0);
        x.work(2, 4, PLAIN, 0, 0);
        x.work(1, 3, PLAIN, 0, 1);
        due("9: room is free", x.plan(ROOM, 0, 4, 4), 0);
        due("9: more of b", x.plan(ROOM, 0, 4, 5), 2);
        planned("9: more of b", x, 0, 1, 0);
        due("9: more of a", x.plan(ROOM, 0, 6, 3), 2);
        planned("9: more of a", x, 1, 0, 0);
        due("9: more of a, and as much of b", x.plan(ROOM, 0, 6, 4), NONE);
        due("9: more of b, and as much of a", x.plan(ROOM, 0, 4, 6), NONE);
        due("9: a machine has not so much", x.plan(ROOM, 1, 0, 5), NONE);
        due("11: whatever machine is given", x.tries(), 0);
        due("9: no works, no room", machines(10).plan(ROOM, 0, 11, 0), NONE);
        due("9: no works, no room in b", machines(10).plan(ROOM, 0, 0, 11), NONE);
        due("9: no works, room", machines(10).plan(ROOM, 0, 10, 10), 0);
    }

    private static void planFew() {
        due("9: nothing at all", new MachineMover().plan(FEW, 0, 1, 0), 0);
        MachineMover x = machines(10, 10, 10);
        works(x, 2, TWIN, 0, 0);
        works(x, 2, TWIN, 0, 1);
        works(x, 2, BRIEF, 9, 2);
        due("9: three", x.plan(FEW, 0, 3, 0), 0);
        due("9: two", x.plan(FEW, 0, 2, 0), 1);
        planned("9: few", x, 0, 1, 0);
        due("11: few as far as it can be told", x.tries(), 3 + 6 + 12);
        due("9: one", x.plan(FEW, 0, 1, 0), NONE);
        due("9: five", x.plan(FEW, 0, 5, 0), 0);
    }

    private static void planFirstOfFewestMoves() {
        MachineMover x = machines(10, 10, 10);
        plain(x, 1, 0);
        plain(x, 1, 1);
        plain(x, 1, 1);
        works(x, 2, FRIEND, 0, 2);
        works(x, 2, FRIEND, 0, 2);
        due("9: friends are one move", x.plan(FEW, 0, 2, 0), 1);
        // One move leaves two machines by 0 to 1, 0 to 2, or the friends to 0 or 1; the first is by what work 0 has.
        planned("9: the first row", x, 0, 1, 1, 0, 0);
        due("9: fewest moves, not the cheapest", x.cost(), 8);
        due("9: fewest moves go before the first row", x.plan(FEW, 0, 1, 0), 2);
        planned("9: the row of two moves", x, 1, 1, 1, 1, 1);
    }

    private static void planGoes() {
        MachineMover x = machines(10, 10);
        plain(x, 1, 0);
        works(x, 1, BRIEF, 50, 1);
        works(x, 1, STUCK, 0, 1);
        due("3: planned", x.plan(EMPTY, 0, 0, 0), 1);
        due("3: refused", x.work(10, 10, PLAIN, 0, 0), NO);
        due("4: refused", x.move(2, 0), NO);
        due("17: not yet ended", x.tick(20), 0);
        due("5: price", x.price(3), 10);
        due("8: fewest", x.fewest(), 1);
        due("19: wait", x.wait(0), 0);
        due("9: the plan stays", x.cost(), 2);
        due("3: one comes", x.work(0, 0, PLAIN, 0, 0), 3);
        due("3: the plan goes", x.cost(), NO);
        due("4: planned", x.plan(EMPTY, 0, 0, 0), 2);
        due("4: moved", x.move(0, 1), 1);
        due("4: the plan goes", x.cost(), NO);
        due("18: planned", x.plan(EMPTY, 0, 0, 0), 1);
        due("18: ended", x.tick(30), 1);
        due("18: the plan goes", x.cost(), NO);
        due("9: planned", x.plan(EMPTY, 0, 0, 0), 1);
        due("9: planned anew, none", x.plan(EMPTY, 1, 0, 0), NONE);
        due("9: there is none", x.cost(), NO);
    }

    // Promise 10
    private static void planAt() {
        MachineMover x = machines(10, 10);
        plain(x, 1, 0);
        works(x, 1, BRIEF, 1, 0);
        due("10: no plan", x.planAt(0), NO);
        due("10: BAD goes before NO", x.planAt(2), BAD);
        due("10: below", x.planAt(-1), BAD);
        x.tick(1);
        due("10: no plan for an ended one", x.planAt(1), NO);
        x.plan(EMPTY, 0, 0, 0);
        due("10: planned", x.planAt(0), 1);
        due("10: ended", x.planAt(1), NONE);
        due("10: above", x.planAt(2), BAD);
        x.step(false);
        due("10: made", x.planAt(0), 1);
    }

    // Promise 11
    private static void tries() {
        MachineMover x = machines(10, 10, 4);
        due("11: none yet", x.tries(), 0);
        plain(x, 6, 0);
        due("11: none yet", x.tries(), 0);
        x.fewest();
        due("11: of fewest", x.tries(), 2);
        works(x, 3, STUCK, 0, 2);
        x.plan(EMPTY, 1, 0, 0);
        due("11: of plan", x.tries(), 2);
        x.plan(ROOM, 0, 5, 5);
        due("11: room is looked at at each", x.tries(), 2);
        works(x, 1, FRIEND, 0, 1);
        works(x, 1, FRIEND, 0, 1);
        x.fewest();
        due("11: friends, a stuck one", x.tries(), 2 + 2 + 6 + 4);
        x.wait(0);
        x.order();
        x.move(9, 9);
        due("11: a wait is no plan", x.tries(), 14);
    }

    // Promise 12
    private static void cost() {
        MachineMover x = new MachineMover();
        due("12: none", x.cost(), NO);
        x.machine(20, 20);
        x.machine(20, 20);
        x.work(1, 2, FRIEND, 0, 0);
        x.work(3, 4, PLAIN, 0, 0);
        x.work(5, 6, FRIEND, 0, 0);
        x.work(7, 8, PLAIN, 0, 1);
        due("12: planned", x.plan(EMPTY, 0, 0, 0), 2);
        due("12: friends and one", x.cost(), 21);
        due("12: the friends go", x.step(false), 0);
        due("12: the one is left", x.cost(), 7);
        due("12: it fails", x.step(true), 1);
        due("12: it is left still", x.cost(), 7);
        due("12: it goes", x.step(false), 1);
        due("12: none is left", x.cost(), 0);
        due("12: all made", x.count(6), 21);
    }

    // Promise 13
    private static void order() {
        due("13: no plan", new MachineMover().order(), NO);
        MachineMover x = machines(10, 10, 10);
        plain(x, 6, 0);
        plain(x, 6, 1);
        due("13: no moves", x.plan(EMPTY, 2, 0, 0), 0);
        due("13: no moves have an order", x.order(), 1);
        due("14: without any", x.orderAt(0), NONE);
        due("17: no move is left", x.step(false), NO);
        due("13: one", x.plan(EMPTY, 0, 0, 0), 1);
        due("13: has an order", x.order(), 1);
        MachineMover y = swap(10, 10, 6, 4);
        due("13: a round has none", y.order(), 0);
        due("14: nor a first", y.orderAt(0), NONE);
        due("17: nor a step", y.step(false), NO);
        due("17: nothing was made", y.count(6), 0);
    }

    // Promise 14
    private static void orderAt() {
        due("14: no plan", machines(10, 10).orderAt(0), NO);
        // Machine 2 has too little of the first room for 0, which goes to 1 when 1 has gone from there.
        MachineMover y = machines(10, 6);
        y.machine(4, 9);
        y.work(5, 1, PLAIN, 0, 0);
        y.work(4, 5, PLAIN, 0, 1);
        due("14: two moves", y.plan(EMPTY, 0, 0, 0), 2);
        planned("14", y, 1, 2);
        due("14: 1 makes room", y.orderAt(0), 1);
        due("14: 0 comes after", y.orderAt(1), 0);
        due("14: there are two", y.orderAt(2), NONE);
        due("14: below", y.orderAt(-1), NONE);
        due("14: far", y.orderAt(HIGH), NONE);
        due("14: a step", y.step(false), 1);
        due("14: those not made yet", y.orderAt(0), 0);
        due("14: one is left", y.orderAt(1), NONE);
        due("13: an order still", y.order(), 1);
        due("14: a step", y.step(false), 0);
        due("14: none is left", y.orderAt(0), NONE);
        due("13: an order still", y.order(), 1);
        due("15: an order still", y.third(), NO);
        MachineMover z = machines(10, 10);
        plain(z, 3, 0);
        plain(z, 2, 0);
        plain(z, 1, 0);
        due("14: three moves", z.plan(EMPTY, 0, 0, 0), 3);
        due("14: by numbers of blocks", z.orderAt(0), 0);
        due("14: by numbers of blocks", z.orderAt(1), 1);
        due("14: by numbers of blocks", z.orderAt(2), 2);
    }

    private static void orderOfTwins() {
        MachineMover x = machines(10, 10, 10);
        works(x, 1, TWIN, 0, 0);
        works(x, 1, TWIN, 0, 1);
        works(x, 9, STUCK, 0, 0);
        works(x, 0, STUCK, 0, 1);
        // Nothing but its twin keeps 0 from 1; 2 is filled but for 1.
        works(x, 9, STUCK, 0, 2);
        due("9: a twin goes to where there is none", x.plan(ROOM, 0, 1, 1), 1);
        planned("9: twins", x, 2, 1);
        MachineMover z = machines(8, 8);
        works(z, 2, TWIN, 1, 0);
        works(z, 1, TWIN, 1, 1);
        works(z, 4, STUCK, 0, 0);
        due("9: twins change places", z.plan(ROOM, 0, 3, 3), 2);
        due("13: room alone is not enough", z.order(), 0);
        due("17: no step", z.step(false), NO);
        due("16: the lesser stops", z.byStop(), 1);
        z.machine(8, 8);
        due("15: a place without a twin", z.third(), 0 * 8 + 2);
        works(z, 0, TWIN, 1, 2);
        due("9: twins change places", z.plan(ROOM, 0, 3, 3), 2);
        due("15: a twin at the third place", z.third(), NONE);
    }

    // Promise 15
    private static void third() {
        due("15: no plan", new MachineMover().third(), NO);
        MachineMover x = swap(10, 10, 6, 4);
        due("15: no third machine", x.third(), NONE);
        due("2: a machine that is too small", x.machine(3, 3), 2);
        due("15: too small", x.third(), NONE);
        due("2: a machine that takes the small one", x.machine(4, 4), 3);
        due("15: the small one goes by it", x.third(), 1 * 8 + 3);
        due("2: a machine that takes both", x.machine(6, 6), 4);
        due("15: the first block goes before", x.third(), 0 * 8 + 4);
        due("15: nothing is moved by it", x.about(0, 0), 0);
        due("12: nor planned", x.cost(), 20);
        MachineMover y = machines(10, 10);
        plain(y, 1, 0);
        y.plan(EMPTY, 0, 0, 0);
        due("15: has an order", y.third(), NO);
        y.plan(EMPTY, 9, 0, 0);
        due("15: no plan", y.third(), NO);
    }

    private static void thirdIsFirst() {
        MachineMover x = swap(10, 10, 6, 4);
        x.machine(6, 6);
        x.machine(6, 6);
        due("15: the first machine of two", x.third(), 0 * 8 + 2);
    }

    /**
     * Work 2 on machine 2 finds room only when 0 and 1 have changed places; 3 goes from there at once, and only then
     * has machine 2 room for 1.
     */
    private static void thirdInTheMiddle() {
        MachineMover x = machines(6, 5, 6, 3);
        plain(x, 5, 0);
        plain(x, 4, 1);
        plain(x, 2, 2);
        plain(x, 3, 2);
        due("15: four moves", x.plan(EMPTY, 2, 0, 0), 4);
        planned("15: four moves", x, 1, 0, 0, 3);
        due("15: no order", x.order(), 0);
        due("15: by a place that another leaves", x.third(), 1 * 8 + 2);
        due("16: lesser ones that stop do not help", x.byStop(), 1);
    }

    /** A round on 0 and 1 and one on 2 and 3, both needed to empty 4: no one block helps both. */
    private static void twoRounds() {
        MachineMover x = machines(6, 5, 6, 5, 4);
        plain(x, 5, 0);
        plain(x, 4, 1);
        plain(x, 5, 2);
        plain(x, 4, 3);
        plain(x, 2, 4);
        plain(x, 2, 4);
        due("16: all move", x.plan(EMPTY, 4, 0, 0), 6);
        planned("16: two rounds", x, 1, 0, 3, 2, 0, 2);
        due("13: no order", x.order(), 0);
        due("15: no third place for both", x.third(), NONE);
        due("16: no stop for both", x.byStop(), NONE);
    }

    private static void thirdOfFriends() {
        MachineMover x = machines(10, 10, 10);
        works(x, 6, FRIEND, 0, 0);
        works(x, 2, FRIEND, 0, 0);
        works(x, 7, PLAIN, 0, 1);
        works(x, 3, STUCK, 0, 2);
        works(x, 2, STUCK, 0, 0);
        works(x, 2, STUCK, 0, 1);
        due("15: friends and one change places", x.plan(ROOM, 0, 1, 1), 2);
        planned("15: friends", x, 1, 1, 0, 2);
        due("13: a round", x.order(), 0);
        due("15: friends have no third place together, the one has", x.third(), 2 * 8 + 2);
        due("16: the one has the least needs", x.byStop(), 2);
    }

    // Promise 16
    private static void byStop() {
        due("16: no plan", new MachineMover().byStop(), NO);
        MachineMover x = swap(10, 10, 6, 4);
        due("16: the lesser", x.byStop(), 1);
        due("16: nothing stops by it", x.about(1, 0), 1);
        MachineMover y = machines(10, 10);
        plain(y, 1, 0);
        y.plan(EMPTY, 0, 0, 0);
        due("16: has an order", y.byStop(), NO);
        MachineMover z = new MachineMover();
        z.machine(7, 7);
        z.machine(7, 7);
        z.work(5, 3, PLAIN, 0, 0);
        z.work(3, 5, PLAIN, 0, 1);
        z.work(2, 2, STUCK, 0, 0);
        z.work(2, 2, STUCK, 0, 1);
        due("16: like ones", z.plan(ROOM, 0, 2, 0), 2);
        due("16: of like ones the first", z.byStop(), 0);
        MachineMover both = new MachineMover();
        both.machine(10, 10);
        both.machine(10, 10);
        both.work(5, 3, PLAIN, 0, 0);
        both.work(4, 6, PLAIN, 0, 1);
        both.work(5, 4, STUCK, 0, 0);
        both.work(5, 4, STUCK, 0, 1);
        due("16: both needs count", both.plan(ROOM, 0, 1, 0), 2);
        due("16: 8 is less than 10", both.byStop(), 0);
    }

    // Promise 17
    private static void step() {
        due("17: no plan", new MachineMover().step(true), NO);
        MachineMover x = machines(20, 20);
        plain(x, 1, 0);
        works(x, 2, FRIEND, 0, 0);
        works(x, 3, FRIEND, 0, 0);
        due("17: planned", x.plan(EMPTY, 0, 0, 0), 2);
        due("17: fails", x.step(true), 0);
        places("17: nothing changes", x, 0, 0, 0);
        due("17: nothing is paid", x.count(6), 0);
        due("17: the same is the first still", x.orderAt(0), 0);
        due("17: goes", x.step(false), 0);
        places("17: it went", x, 1, 0, 0);
        due("17: paid", x.count(6), 2);
        due("17: friends go", x.step(false), 1);
        places("17: together", x, 1, 1, 1);
        due("17: paid", x.count(6), 12);
        due("17: none is left", x.step(false), NO);
        due("17: none is left to fail", x.step(true), NO);
        due("17: no time goes by", x.count(3), 0);
        due("17: the plan stays", x.planAt(2), 1);
    }

    // Promise 18
    private static void tick() {
        MachineMover x = machines(20);
        due("18: none", x.tick(0), BAD);
        due("18: below", x.tick(-1), BAD);
        due("18: above", x.tick(1001), BAD);
        due("18: far above", x.tick(HIGH), BAD);
        due("18: none went by", x.count(3), 0);
        works(x, 1, BRIEF, 3, 0);
        works(x, 1, BRIEF, 4, 0);
        works(x, 1, BRIEF, 4, 0);
        works(x, 1, BRIEF, 1005, 0);
        works(x, 1, PLAIN, 1, 0);
        due("18: before", x.tick(2), 0);
        due("18: at", x.tick(1), 1);
        due("18: two", x.tick(1), 2);
        due("18: none anew", x.tick(1), 0);
        due("18: most", x.tick(1000), 1);
        due("18: the tick", x.count(3), 1005);
        due("18: ended", x.count(2), 4);
        due("18: a plain one stands", x.about(4, 0), 0);
    }

    // Promise 19
    private static void waitWrong() {
        MachineMover x = machines(10, 10);
        due("19: no machine", x.wait(2), BAD);
        due("19: below", x.wait(-1), BAD);
        due("19: nothing stands", x.wait(0), NO);
        works(x, 1, STUCK, 0, 0);
        works(x, 1, BRIEF, 5, 0);
        due("19: no plan in any case", x.wait(0), NONE);
        due("19: nothing stands", x.wait(1), NO);
        x.tick(5);
        due("19: no plan, no brief ones", x.wait(0), NONE);
    }

    private static void waitLeast() {
        MachineMover x = machines(10, 10);
        plain(x, 3, 0);
        works(x, 4, BRIEF, 6, 0);
        // At once 6 + 8; later 6 ticks and 6.
        x.price(2);
        due("19: at once costs 14, later 18", x.wait(0), 0);
        x.price(1);
        due("19: at once 14, later 12", x.wait(0), 6);
        x.tick(2);
        x.price(2);
        due("19: of like ones the fewest", x.wait(0), 0);
        x.tick(1);
        due("19: ticks from now", x.wait(0), 3);
        due("19: searches are not told", x.tries(), 0);
        due("9: a plan", x.plan(EMPTY, 0, 0, 0), 2);
        due("19: again", x.wait(0), 3);
        due("19: the plan stays", x.cost(), 14);
        due("19: what it stays at", x.planAt(1), 1);
        places("19: nothing is moved", x, 0, 0);
        due("19: nor ended", x.count(2), 0);
    }

    private static void waitForSeveral() {
        MachineMover x = machines(10, 10);
        works(x, 4, BRIEF, 20, 0);
        works(x, 9, BRIEF, 5, 1);
        works(x, 5, PLAIN, 0, 0);
        x.price(0);
        due("19: when all brief ones have ended it costs least", x.wait(0), 20);
        x.price(1);
        // At 5: 5 and 18; at 20: 20 and 10.
        due("19: as soon as there is room", x.wait(0), 5);
        MachineMover y = machines(10);
        works(y, 1, BRIEF, 7, 0);
        works(y, 1, BRIEF, 9, 0);
        due("19: no place at once, nor at 7", y.wait(0), 9);
        works(y, 1, BRIEF, 9, 0);
        due("19: two that end together", y.wait(0), 9);
        y.tick(8);
        due("19: one has ended", y.wait(0), 1);
    }

    private static void waitLong() {
        MachineMover x = machines(10, 10);
        works(x, 5, BRIEF, HIGH, 0);
        x.price(1000);
        due("19: a price above what an int tells", x.wait(0), 0);
        works(x, 10, STUCK, 0, 1);
        due("19: a wait as long as can be", x.wait(0), HIGH);
        x.tick(7);
        due("19: from now", x.wait(0), HIGH - 7);
    }

    // Promise 20
    private static void count() {
        MachineMover x = machines(10, 10, 10);
        plain(x, 1, 0);
        works(x, 2, BRIEF, 3, 1);
        works(x, 2, BRIEF, 9, 1);
        x.move(0, 2);
        x.move(0, 1);
        x.price(77);
        x.tick(3);
        int[] counts = {3, 3, 1, 3, 77, 1, 4};
        for (int what = 0; what < counts.length; what++) {
            due("20: count(" + what + ")", x.count(what), counts[what]);
        }
        due("20: below", x.count(-1), BAD);
        due("20: above", x.count(7), BAD);
        x.move(0, 0);
        due("20: on two", x.count(5), 2);
        x.tick(6);
        due("20: one is free of all", x.count(5), 1);
    }

    // Promise 21
    private static void digest() {
        due("21: new", new MachineMover().digest(), told(127, 0, 0, 0, 0, 10, 0, 0));
        MachineMover x = new MachineMover();
        x.machine(30, 40);
        x.machine(50, 60);
        x.work(3, 4, FRIEND, 2, 0);
        x.work(5, 6, BRIEF, 1, 1);
        x.work(7, 8, FRIEND, 2, 0);
        long noPlan = told(127, 2, 3, 0, 0, 10, 2, 0, 0, 3, 4, 2, 0, 0, NO, 1, 5, 6, 4, 1, 0, NO, 0, 7, 8, 2, 0, 0, NO,
            20, 28, 2, 45, 54, 1);
        due("21: no plan", x.digest(), noPlan);
        x.tick(1);
        x.plan(EMPTY, 0, 0, 0);
        x.step(false);
        long all = told(127, 2, 3, 1, 1, 10, 1, 22, 1, 3, 4, 2, 0, 0, 1, NONE, 5, 6, 4, NONE, 1, NONE, 1, 7, 8, 2, 0, 0, 1,
            30, 40, 0, 40, 48, 2);
        due("21: a plan", x.digest(), all);
        due("21: it changes nothing", x.digest(), all);
    }
}
