import java.math.BigInteger;

/**
 * The edges of promises 18, 19 and 21: the least and the most TICKS, ends that are just reached, waits that cost as much
 * as none, numbers that go beyond an int or a long. Each sentence of the document that names one has a test of its own.
 */
public final class EdgesOfTime extends Checks {
    public static void main(String[] args) {
        test("18: n TICKS (1 .. 1000), too small, too large", EdgesOfTime::ticksOutside);
        test("18: n TICKS: 1 and 1000", EdgesOfTime::leastAndMostTicks);
        test("18: BRIEF WORKS end as their TICK comes: just then", EdgesOfTime::endsJustThen);
        test("18: BRIEF WORKS end as their TICK comes: when more go by", EdgesOfTime::endsWithin);
        test("18: how many WORKS ended: none, and each but once", EdgesOfTime::endsOnce);
        test("18: how many WORKS ended: all eight", EdgesOfTime::endsAll);
        test("18: no others end", EdgesOfTime::othersStay);
        test("18: WORKS that have ended stand nowhere", EdgesOfTime::endedStandNowhere);
        test("18: after as many TICKS as an object has calls for", EdgesOfTime::endsLate);
        test("18: if any ended, THE PLAN goes", EdgesOfTime::planGoesWithOne);
        test("18: if none ended, THE PLAN stays", EdgesOfTime::planStaysWithNone);
        test("19: BAD", EdgesOfTime::waitNoMachine);
        test("19: NO: nothing stands on it", EdgesOfTime::waitNothing);
        test("19: NONE: there is no PLAN in any case", EdgesOfTime::waitNone);
        test("19: at once, and nothing that is BRIEF", EdgesOfTime::waitNoBrief);
        test("19: of like ones the fewest: at once", EdgesOfTime::waitLikeAtOnce);
        test("19: of like ones the fewest: of two later ones", EdgesOfTime::waitLikeLater);
        test("19: MOVES that cost nothing", EdgesOfTime::waitNoNeeds);
        test("19: PRICE 0", EdgesOfTime::waitNoPrice);
        test("19: PRICE 1000", EdgesOfTime::waitMostPrice);
        test("19: all ended whose end is no later: just then", EdgesOfTime::waitSameEnd);
        test("19: the MACHINE is empty as the last ends", EdgesOfTime::waitTillEmpty);
        test("19: each BRIEF WORK's end: on another MACHINE", EdgesOfTime::waitForAnother);
        test("19: each BRIEF WORK's end: not one that has ended", EdgesOfTime::waitNotForEnded);
        test("19: TICKS till then: from that which is", EdgesOfTime::waitFromNow);
        test("19: TICKS times PRICE beyond an int", EdgesOfTime::waitBeyondInt);
        test("19: TICKS as many as can be", EdgesOfTime::waitLongest);
        test("19: the cost of THE PLAN: fewest MOVES, not the least cost", EdgesOfTime::waitCostOfPlan);
        test("19: SPENT: EMPTY leaves too few TRIES for it", EdgesOfTime::waitNotSpent);
        test("19: THE PLAN at hand stays", EdgesOfTime::waitKeepsPlan);
        test("21: without WORKS and MACHINES", EdgesOfTime::digestOfNothing);
        test("21: h wraps round", EdgesOfTime::digestWraps);
        test("21: planAt() with no PLAN, with one, of one ended", EdgesOfTime::digestOfPlan);
        test("21: as many WORKS and MACHINES as can be", EdgesOfTime::digestOfMost);
        end();
    }

    private static void brief(MachineMover x, int need, int end, int machine) {
        works(x, need, BRIEF, end, machine);
    }

    private static void ticksOutside() {
        MachineMover x = machines(10);
        brief(x, 1, 1, 0);
        for (int n : new int[] {0, -1, LOW, 1001, HIGH}) {
            refused(x, "n " + n, BAD, () -> x.tick(n));
        }
        due("it stands still", x.about(0, 5), 0);
    }

    private static void leastAndMostTicks() {
        MachineMover x = new MachineMover();
        due("1", x.tick(1), 0);
        due("the tick", x.count(3), 1);
        due("1000", x.tick(1000), 0);
        due("the tick", x.count(3), 1001);
    }

    private static void endsJustThen() {
        MachineMover x = machines(10);
        brief(x, 1, 3, 0);
        due("before", x.tick(2), 0);
        due("it stands", x.about(0, 5), 0);
        due("then", x.tick(1), 1);
        due("it has ended", x.about(0, 5), 1);
        MachineMover y = machines(10);
        brief(y, 1, 1000, 0);
        due("at the last of 1000", y.tick(1000), 1);
    }

    private static void endsWithin() {
        MachineMover x = machines(10);
        brief(x, 1, 1, 0);
        brief(x, 1, 999, 0);
        brief(x, 1, 1001, 0);
        due("two within 1000", x.tick(1000), 2);
        places("one stands", x, NONE, NONE, 0);
    }

    private static void endsOnce() {
        MachineMover x = machines(10);
        brief(x, 1, 2, 0);
        due("none", x.tick(1), 0);
        due("one", x.tick(1), 1);
        due("none again", x.tick(1), 0);
        due("ended", x.count(2), 1);
    }

    private static void endsAll() {
        MachineMover x = machines(10, 10);
        for (int k = 0; k < 8; k++) {
            brief(x, 1, 5 + k % 2, k % 2);
        }
        due("none", x.tick(4), 0);
        due("all", x.tick(2), 8);
        due("ended", x.count(2), 8);
        due("nothing stands", x.count(5), 0);
    }

    private static void othersStay() {
        MachineMover x = machines(10);
        works(x, 1, PLAIN, 1, 0);
        works(x, 1, TWIN, 1, 0);
        works(x, 1, FRIEND, 1, 0);
        works(x, 1, STUCK, 1, 0);
        due("none", x.tick(1000), 0);
        places("all stand", x, 0, 0, 0, 0);
    }

    private static void endedStandNowhere() {
        MachineMover x = machines(10, 10);
        brief(x, 10, 1, 0);
        x.move(0, 1);
        plain(x, 1, 0);
        due("ends where it was moved to", x.tick(1), 1);
        due("the room is free", x.free(1, 0), 10);
        due("nothing stands there", x.free(1, 2), 0);
        due("another has room there", x.work(10, 10, PLAIN, 0, 1), 2);
        due("in use", x.count(5), 2);
    }

    private static void endsLate() {
        MachineMover x = machines(10);
        brief(x, 1, 500000, 0);
        brief(x, 1, 500001, 0);
        for (int k = 1; k < 500; k++) {
            due("none", x.tick(1000), 0);
        }
        due("just then", x.tick(1000), 1);
        due("the tick", x.count(3), 500000);
        due("the next", x.tick(1), 1);
    }

    private static void planGoesWithOne() {
        MachineMover x = machines(10, 10);
        plain(x, 1, 0);
        brief(x, 1, 5, 1);
        due("planned", x.plan(EMPTY, 0, 0, 0), 1);
        due("one ends, that was not to move", x.tick(5), 1);
        noPlan("it is gone", x);
    }

    private static void planStaysWithNone() {
        MachineMover x = machines(10, 10);
        plain(x, 1, 0);
        brief(x, 1, 5, 1);
        due("planned", x.plan(EMPTY, 0, 0, 0), 1);
        due("none ends", x.tick(4), 0);
        due("it stays", x.cost(), 2);
        due("BAD", x.tick(0), BAD);
        due("it stays", x.cost(), 2);
    }

    private static void waitNoMachine() {
        MachineMover x = new MachineMover();
        refused(x, "no machines at all", BAD, () -> x.wait(0));
        x.machine(10, 10);
        plain(x, 1, 0);
        for (int machine : new int[] {-1, LOW, 1, 5, HIGH}) {
            refused(x, "machine " + machine, BAD, () -> x.wait(machine));
        }
    }

    private static void waitNothing() {
        MachineMover x = machines(10, 10);
        brief(x, 0, 2, 1);
        refused(x, "none has come", NO, () -> x.wait(0));
        asked(x, "one without needs stands", 0, () -> x.wait(1));
        x.tick(2);
        refused(x, "all have ended", NO, () -> x.wait(1));
    }

    private static void waitNone() {
        MachineMover x = machines(10, 10);
        works(x, 0, STUCK, 0, 0);
        brief(x, 1, 5, 0);
        brief(x, 1, 6, 1);
        refused(x, "a stuck one stands", NONE, () -> x.wait(0));
        MachineMover y = machines(10);
        plain(y, 1, 0);
        refused(y, "no other machine", NONE, () -> y.wait(0));
        MachineMover z = machines(10, 9);
        plain(z, 10, 0);
        brief(z, 9, 5, 1);
        refused(z, "one too little, even when all is free", NONE, () -> z.wait(0));
    }

    private static void waitNoBrief() {
        MachineMover x = machines(10, 10);
        plain(x, 10, 0);
        x.price(0);
        asked(x, "no end to wait for", 0, () -> x.wait(0));
    }

    private static void waitLikeAtOnce() {
        MachineMover x = machines(10, 10);
        brief(x, 3, 3, 0);
        x.price(2);
        due("6 at once, 6 later", x.wait(0), 0);
        x.price(1);
        due("6 at once, 3 later", x.wait(0), 3);
        x.price(3);
        due("6 at once, 9 later", x.wait(0), 0);
    }

    private static void waitLikeLater() {
        for (int early = 0; early < 2; early++) {
            MachineMover x = machines(10, 10);
            // At 2 the larger has ended: 4, and 6 for the lesser; at 5 both have: 10.
            brief(x, early == 0 ? 6 : 3, early == 0 ? 2 : 5, 0);
            brief(x, early == 0 ? 3 : 6, early == 0 ? 5 : 2, 0);
            x.price(2);
            due("the earlier is work " + early, x.wait(0), 2);
            x.price(1);
            due("5 at 5 is less than 8 at 2", x.wait(0), 5);
        }
    }

    private static void waitNoNeeds() {
        MachineMover x = machines(10, 10);
        brief(x, 0, 1, 0);
        x.price(0);
        due("nothing at once, nothing later", x.wait(0), 0);
        MachineMover y = machines(10, 10);
        brief(y, 0, 1, 0);
        y.price(1);
        due("nothing at once, 1 later", y.wait(0), 0);
    }

    private static void waitNoPrice() {
        MachineMover x = machines(10, 10);
        brief(x, 1, HIGH, 0);
        brief(x, 1, 4, 0);
        plain(x, 1, 0);
        x.price(0);
        due("however long, if it costs less", x.wait(0), HIGH);
    }

    private static void waitMostPrice() {
        MachineMover x = machines(1000, 1000);
        works(x, 500, BRIEF, 1, 0);
        x.price(1000);
        due("1000 at once, 1000 later", x.wait(0), 0);
        MachineMover y = machines(1000, 1000);
        y.work(501, 500, BRIEF, 1, 0);
        y.price(1000);
        due("1001 at once, 1000 later", y.wait(0), 1);
        y.price(999);
        due("1001 at once, 999 later", y.wait(0), 1);
    }

    private static void waitSameEnd() {
        MachineMover x = machines(10);
        brief(x, 1, 4, 0);
        brief(x, 1, 4, 0);
        due("two that end together", x.wait(0), 4);
        brief(x, 1, 5, 0);
        due("one that ends a tick later", x.wait(0), 5);
    }

    private static void waitTillEmpty() {
        MachineMover x = machines(10, 0);
        brief(x, 1, 3, 0);
        brief(x, 1, 7, 0);
        due("nothing else can take them", x.wait(0), 7);
        x.tick(6);
        due("a tick before", x.wait(0), 1);
        x.tick(1);
        due("then", x.wait(0), NO);
    }

    private static void waitForAnother() {
        MachineMover x = machines(10, 10);
        plain(x, 6, 0);
        brief(x, 5, 8, 1);
        due("room as another ends there", x.wait(0), 8);
        MachineMover y = machines(10, 10);
        plain(y, 6, 0);
        brief(y, 4, 8, 1);
        y.price(0);
        due("just room beside it: no need to wait", y.wait(0), 0);
    }

    private static void waitNotForEnded() {
        MachineMover x = machines(10, 10);
        plain(x, 1, 0);
        brief(x, 1, 2, 0);
        brief(x, 1, 3, 1);
        x.tick(5);
        x.price(1000);
        due("ended ones save nothing", x.wait(0), 0);
        works(x, 0, STUCK, 0, 0);
        due("nor do they make a plan", x.wait(0), NONE);
    }

    private static void waitFromNow() {
        MachineMover x = machines(10, 10);
        x.tick(1000);
        brief(x, 3, 1003, 0);
        x.price(1);
        due("3 ticks for 6", x.wait(0), 3);
        x.tick(1);
        due("2 ticks for 6", x.wait(0), 2);
        x.price(3);
        due("6 for 6", x.wait(0), 0);
        x.price(2);
        due("4 for 6", x.wait(0), 2);
    }

    private static void waitBeyondInt() {
        // 2147484 ticks at 1000 are 2147484000, of which an int would make something below 0.
        for (int end : new int[] {2147483, 2147484, 4294968, 1 << 30, HIGH}) {
            MachineMover x = machines(1000, 1000);
            works(x, 1000, BRIEF, end, 0);
            x.price(1000);
            due("2000 at once, end " + end, x.wait(0), 0);
        }
    }

    private static void waitLongest() {
        MachineMover x = machines(10);
        brief(x, 1, HIGH, 0);
        x.price(1000);
        due("no other place", x.wait(0), HIGH);
        x.tick(1000);
        due("1000 less", x.wait(0), HIGH - 1000);
    }

    private static void waitCostOfPlan() {
        MachineMover x = new MachineMover();
        x.machine(10, 10);
        x.machine(10, 10);
        x.machine(10, 10);
        x.machine(9, 4);
        x.machine(5, 5);
        works(x, 5, PLAIN, 0, 0);
        x.work(9, 1, PLAIN, 0, 1);
        x.work(6, 1, PLAIN, 0, 2);
        brief(x, 5, 1, 4);
        // At once 1 or 2 makes way by 3: the first row has 1 do so, for 10 and 10; that with 2 would be 10 and 7.
        due("planned", x.plan(EMPTY, 0, 0, 0), 2);
        planned("the first row", x, 1, 3, 2, 4);
        due("not the cheapest", x.cost(), 20);
        x.price(9);
        due("20 at once, 19 later", x.wait(0), 1);
        x.price(10);
        due("20 at once, 20 later", x.wait(0), 0);
    }

    private static void waitNotSpent() {
        MachineMover x = machines(1000, 1000, 1000, 1000, 1000);
        for (int k = 0; k < 8; k++) {
            brief(x, 1, 10 + k, 0);
        }
        due("fewest is", x.fewest(), SPENT);
        due("tries", x.tries(), 200000);
        x.price(1);
        // 16 at once; 10 and 14 when the first has ended, and 17 when all have.
        due("at once", x.wait(0), 0);
        x.price(0);
        due("when all have ended", x.wait(0), 17);
        due("its tries are not told", x.tries(), 200000);
    }

    private static void waitKeepsPlan() {
        MachineMover x = machines(10, 10, 10);
        plain(x, 1, 0);
        brief(x, 2, 5, 1);
        due("planned", x.plan(EMPTY, 0, 0, 0), 1);
        asked(x, "for the same", 0, () -> x.wait(0));
        asked(x, "for another", 0, () -> x.wait(1));
        asked(x, "NO", NO, () -> x.wait(2));
        asked(x, "BAD", BAD, () -> x.wait(3));
        works(x, 0, STUCK, 0, 0);
        due("planned", x.plan(EMPTY, 1, 0, 0), 1);
        asked(x, "NONE", NONE, () -> x.wait(0));
        due("it stays", x.planAt(1), 0);
    }

    private static void digestOfNothing() {
        due("new", new MachineMover().digest(), told(127, 0, 0, 0, 0, 10, 0, 0));
        MachineMover x = machines(3);
        due("a machine", x.digest(), told(127, 1, 0, 0, 0, 10, 0, 0, 3, 3, 0));
    }

    /** The digest by numbers without end, cut to a long as the last. */
    private static long cut(int... values) {
        BigInteger h = BigInteger.valueOf(127);
        for (int value : values) {
            h = h.multiply(BigInteger.valueOf(31)).add(BigInteger.valueOf(value));
        }
        return h.longValue();
    }

    private static void digestWraps() {
        MachineMover x = machines(1000, 999);
        works(x, 998, STUCK, 0, 0);
        int[] values = {2, 1, 0, 0, 10, 1, 0, 0, 998, 998, STUCK, 0, 0, NO, 2, 2, 1, 999, 999, 0};
        due("far beyond a long", x.digest(), cut(values));
    }

    private static void digestOfPlan() {
        MachineMover x = machines(10, 10);
        plain(x, 1, 0);
        brief(x, 2, 1, 1);
        due("no plan", x.digest(), told(127, 2, 2, 0, 0, 10, 2, 0, 0, 1, 1, 0, 0, 0, NO, 1, 2, 2, 4, 1, 0, NO,
            9, 9, 1, 8, 8, 1));
        x.tick(1);
        due("ended, no plan", x.digest(), told(127, 2, 2, 1, 1, 10, 1, 0, 0, 1, 1, 0, 0, 0, NO, NONE, 2, 2, 4, NONE, 1, NO,
            9, 9, 1, 10, 10, 0));
        x.plan(EMPTY, 0, 0, 0);
        due("a plan", x.digest(), told(127, 2, 2, 1, 1, 10, 1, 0, 0, 1, 1, 0, 0, 0, 1, NONE, 2, 2, 4, NONE, 1, NONE,
            9, 9, 1, 10, 10, 0));
        x.step(false);
        due("made", x.digest(), told(127, 2, 2, 1, 1, 10, 1, 2, 1, 1, 1, 0, 0, 0, 1, NONE, 2, 2, 4, NONE, 1, NONE,
            10, 10, 0, 9, 9, 1));
    }

    private static void digestOfMost() {
        MachineMover x = new MachineMover();
        for (int machine = 0; machine < 5; machine++) {
            x.machine(1000, 900 + machine);
        }
        int[] values = new int[7 + 8 * 7 + 5 * 3];
        System.arraycopy(new int[] {5, 8, 0, 0, 10, 5, 0}, 0, values, 0, 7);
        for (int work = 0; work < 8; work++) {
            x.work(work, 10 * work, PLAIN, 0, work % 5);
            System.arraycopy(new int[] {work % 5, work, 10 * work, PLAIN, work, 0, NO}, 0, values, 7 + 7 * work, 7);
        }
        for (int machine = 0; machine < 5; machine++) {
            int needs = machine < 3 ? 2 * machine + 5 : machine;
            int[] free = {1000 - needs, 900 + machine - 10 * needs, machine < 3 ? 2 : 1};
            System.arraycopy(free, 0, values, 7 + 8 * 7 + 3 * machine, 3);
        }
        due("five and eight", x.digest(), cut(values));
    }
}
