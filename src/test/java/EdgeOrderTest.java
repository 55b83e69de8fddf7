/**
 * Promises 18 to 24, and parts 3 and 4 of the Terms: each sentence of the document that names a
 * boundary case has a test of its own, under that sentence's words.
 */
public final class EdgeOrderTest {
    private static final Bench B = new Bench("EdgeOrderTest");
    private static final int MIN = Integer.MIN_VALUE;
    private static final int MAX = Integer.MAX_VALUE;

    private static final String PAIR = "raw a;make b of a;wish b;";
    private static final String CHAIN = "raw a;make b of a;make c of b;wish c;";
    private static final String TWICE = "raw a costs 5;make b of a;raw p;raw q;make r of b p q;make s of r a;wish s;";
    private static final String TREE = "raw a;raw b;make c of a b;raw p;raw q;make r of p q;make s of c r;wish s;";
    /** The first by numbers needs a BOWL more than the best ones do. */
    private static final String LATE = "raw a;raw b;raw c;make d of b c;make e of a d;wish e;";
    private static final String THREE = "raw a;raw b;make c of a b;make d of a b;make e of a b;make f of c d e;wish f;";
    private static final String EIGHT = "raw a;raw b;raw c;raw d;raw e;raw f;raw g;raw h;";
    private static final String NINE = EIGHT + "raw i;wish i;";
    private static final String ALL = EIGHT + "raw i;raw j;raw k;raw l;raw m;raw n;wish a b c d e f g h i j k l m n;";
    private static final String LONG8 = "raw a;make b of a;make c of b;make d of c;make e of d;make f of e;make g of f;"
        + "make h of g;wish h;";

    public static void main(String[] args) {
        once();
        order();
        carry();
        cooks();
        promised();
        B.close();
    }

    private static void dueOnce(String net, int ways, int bowls, long many, int... first) {
        FewBowls x = Bench.with(net);
        B.due("once(" + ways + ") of " + net, x.once(ways), bowls);
        B.due("onceMany() of " + net, x.onceMany(), many);
        for (int i = 0; i < first.length; i++) {
            B.due("onceAt(" + i + ") of " + net, x.onceAt(i), first[i]);
        }
        B.due("onceAt past " + net, x.onceAt(first.length), -1);
    }

    private static void dueOrder(String net, int ways, int want, int... things) {
        FewBowls x = Bench.with(net);
        StringBuilder told = new StringBuilder("order(" + ways + ") of");
        for (int k : things) {
            told.append(' ').append(k);
        }
        B.due(told + " in " + net, Bench.order(x, ways, things), want);
        B.due("the tape behind " + told, x.count(2), 0);
    }

    // Promises 18, 19 and 20, and part 3 of the Terms

    private static void once() {
        onceOfTheNeeded();
        washedWhenNoneIsLeft();
        theWishedNever();
        countedAheadOfWashing();
        inTheBowlOfOneWashed();
        bestOrders();
        onceRefused();
        onceManyOfTheLatest();
        onceAtNone();
    }

    private static void onceOfTheNeeded() {
        B.sentence(18, "in an ORDER each NEEDED THING is made just once, behind all that it is made of");
        dueOnce("raw a;wish a;", 0, 1, 1, 0);
        dueOnce("raw u;raw a;make v of u a;make b of a;make w of b;wish b;", 0, 2, 1, 1, 3);
        dueOnce(CHAIN, 0, 2, 1, 0, 1, 2);
        dueOnce(EIGHT + "wish h;", 0, 1, 1, 7);
        dueOnce(ALL, 0, 14, 87_178_291_200L, 0, 1, 2, 3, 4, 5, 6, 7, 8, 9, 10, 11, 12, 13);
        dueOnce(ALL, 1, 14, 87_178_291_200L, 0, 1, 2, 3, 4, 5, 6, 7, 8, 9, 10, 11, 12, 13);
    }

    private static void washedWhenNoneIsLeft() {
        B.sentence(18, "a THING is washed as soon as no NEEDED one that is made of it is left to be made");
        // c and d, which are not NEEDED, do not keep a.
        dueOnce("raw a;make b of a;make c of a;make d of a b;make e of b;wish e;", 0, 2, 1, 0, 1, 4);
        // The second of those that are made of it keeps it.
        dueOnce("raw a;make b of a;make c of b;make d of a c;wish d;", 0, 3, 1, 0, 1, 2, 3);
        dueOnce("raw a;make b of a;make c of a b;wish c;", 0, 3, 1, 0, 1, 2);
    }

    private static void theWishedNever() {
        B.sentence(18, "(the WISHED never)");
        dueOnce("raw a;make b of a;make c of b;wish a c;", 0, 3, 1, 0, 1, 2);
        dueOnce("raw a;make b of a;make c of b;wish a c;", 1, 2, 1, 0, 1, 2);
        dueOnce("raw a;make b of a;make c of b;wish b c;", 1, 2, 1, 0, 1, 2);
        dueOnce("raw a;make b of a;make c of b;wish a b c;", 1, 3, 1, 0, 1, 2);
    }

    private static void countedAheadOfWashing() {
        B.sentence(18, "the greatest number that are FULL at once, the one just made being counted ahead of any washing");
        dueOnce(PAIR, 0, 2, 1, 0, 1);
        dueOnce("raw a;raw b;raw c;raw d;raw e;raw f;make g of a b c d e f;wish g;", 0, 7, 720, 0, 1, 2, 3, 4, 5, 6);
        // The greatest number may be ahead of the last.
        dueOnce("raw a;raw b;raw c;make d of a b c;make e of d;wish e;", 0, 4, 6, 0, 1, 2, 3, 4);
    }

    private static void inTheBowlOfOneWashed() {
        B.sentence(18, "with WAYS 1 a THING is MADE IN the bowl of one that would be washed then, if there is one");
        dueOnce(PAIR, 1, 1, 1, 0, 1);
        dueOnce("raw a;raw b;raw c;raw d;raw e;raw f;make g of a b c d e f;wish g;", 1, 6, 720, 0, 1, 2, 3, 4, 5, 6);
        // Not in one that is needed still, nor in a WISHED one.
        dueOnce("raw a;make b of a;make c of a b;wish c;", 1, 2, 1, 0, 1, 2);
        dueOnce("raw a;make b of a;make c of a;wish b c;", 1, 2, 2, 0, 1, 2);
        dueOnce("raw a;make b of a;wish a b;", 1, 2, 1, 0, 1);
    }

    private static void bestOrders() {
        B.sentence(20, "Best ORDERS: with the fewest BOWLS; the first by numbers of THINGS");
        dueOnce(LATE, 0, 3, 2, 1, 2, 3, 0, 4);
        dueOnce(LATE, 1, 2, 2, 1, 2, 3, 0, 4);
        dueOnce(TREE, 0, 4, 32, 0, 1, 2, 3, 4, 5, 6);
        dueOnce(TWICE, 0, 5, 12, 0, 1, 2, 3, 4, 5);
        dueOnce(TWICE, 1, 4, 12, 0, 1, 2, 3, 4, 5);
    }

    private static void onceRefused() {
        B.sentence(18, "ONCE by WAYS (0 or 1); NONE: not as told, or no THINGS");
        FewBowls x = Bench.with(PAIR);
        for (int ways : new int[] {-1, 2, 3, 4, 5, 6, 7, 8, 256, MIN, MAX}) {
            B.due("once(" + ways + ")", x.once(ways), -1);
        }
        B.due("once(0) without THINGS", new FewBowls().once(0), -1);
        B.due("once(1) without THINGS", new FewBowls().once(1), -1);
    }

    private static void onceManyOfTheLatest() {
        B.sentence(19, "by the latest once() that was not NONE; 0 ahead of any");
        FewBowls x = new FewBowls();
        B.due("onceMany() ahead of any", x.onceMany(), 0);
        x.once(0);
        Bench.net(x, TREE);
        x.once(2);
        B.due("onceMany() behind NONE alone", x.onceMany(), 0);
        x.once(0);
        x.once(2);
        x.once(-1);
        Bench.order(x, 0, 0, 1, 2, 3, 4, 5, 6);
        Bench.net(x, PAIR);
        B.due("onceMany() stays", x.onceMany(), 32);
        x.once(1);
        B.due("onceMany() of the latest", x.onceMany(), 1);
    }

    private static void onceAtNone() {
        B.sentence(20, "NONE: there is none such, or ahead of any");
        FewBowls x = Bench.with(LATE);
        x.once(2);
        for (int i : new int[] {-1, 0, 1, MIN, MAX}) {
            B.due("onceAt(" + i + ") ahead of any", x.onceAt(i), -1);
        }
        x.once(0);
        for (int i : new int[] {-1, 5, 6, 13, 14, 32, MIN, MAX}) {
            B.due("onceAt(" + i + ")", x.onceAt(i), -1);
        }
        x.once(7);
        Bench.net(x, PAIR);
        x.once(-1);
        B.due("onceAt(4) stays", x.onceAt(4), 4);
        B.due("onceAt(0) stays", x.onceAt(0), 1);
        x.once(0);
        B.due("onceAt(2) of a shorter one", x.onceAt(2), -1);
        B.due("onceAt(1) of a shorter one", x.onceAt(1), 1);
    }

    // Promise 21

    private static void order() {
        orderOfAllNeeded();
        orderTooShortOrLong();
        orderOfOthers();
        orderTooEarly();
        orderRefused();
    }

    private static void orderOfAllNeeded() {
        B.sentence(21, "The tape's bytes are an ORDER (of all NEEDED ones): its BOWLS by WAYS (0 or 1)");
        dueOrder(LATE, 0, 3, 1, 2, 3, 0, 4);
        dueOrder(LATE, 1, 2, 1, 2, 3, 0, 4);
        dueOrder(LATE, 0, 4, 0, 1, 2, 3, 4);
        dueOrder(LATE, 1, 3, 0, 1, 2, 3, 4);
        dueOrder("raw a;wish a;", 0, 1, 0);
        dueOrder(EIGHT + "wish h;", 1, 1, 7);
        dueOrder(ALL, 0, 14, 13, 12, 11, 10, 9, 8, 7, 6, 5, 4, 3, 2, 1, 0);
        dueOrder("raw a;make b of a;make c of a b;wish c;", 1, 2, 0, 1, 2);
        // d waits while c is made in the bowl of a.
        dueOrder("raw a;raw b;make c of a b;raw d;make e of c d;wish e;", 1, 3, 0, 1, 3, 2, 4);
        dueOrder("raw a;raw b;make c of a b;raw d;make e of c d;wish e;", 0, 4, 0, 1, 3, 2, 4);
    }

    private static void orderTooShortOrLong() {
        B.sentence(21, "NONE: it is none (too short, too long)");
        dueOrder(LATE, 0, -1);
        dueOrder(LATE, 0, -1, 1, 2, 3, 0);
        dueOrder(LATE, 0, -1, 1, 2, 3, 0, 4, 4);
        dueOrder(LATE, 0, -1, 1, 2, 3, 0, 4, 0);
        dueOrder(LATE, 0, -1, new int[540]);
        dueOrder("raw a;wish a;", 0, -1, new int[540]);
        dueOrder("raw a;wish a;", 0, -1, 0, 0);
        dueOrder(PAIR, 1, -1, 0);
    }

    private static void orderOfOthers() {
        B.sentence(21, "NONE: it is none (one twice, no such THING, one not NEEDED)");
        dueOrder(LATE, 0, -1, 1, 2, 3, 0, 0);
        dueOrder(LATE, 0, -1, 1, 1, 2, 3, 0);
        // Where bits wrap around, 32 and 36 would be like 0 and 4.
        for (int other : new int[] {5, 13, 14, 32, 36, 64, 127, 128, 132, 255}) {
            dueOrder(LATE, 0, -1, 1, 2, 3, 0, other);
        }
        dueOrder(LATE, 0, -1, 1, 2, 3, 32, 4);
        dueOrder(LATE, 0, -1, 1, 2, 3, 128, 4);
        dueOrder("raw u;raw a;make b of a;wish b;", 0, 2, 1, 2);
        dueOrder("raw u;raw a;make b of a;wish b;", 0, -1, 0, 1, 2);
        dueOrder("raw u;raw a;make b of a;wish b;", 0, -1, 0, 1);
        dueOrder("raw u;raw a;make b of a;wish b;", 0, -1, 1, 0);
    }

    private static void orderTooEarly() {
        B.sentence(21, "NONE: it is none (ahead of what it is made of)");
        dueOrder(PAIR, 0, -1, 1, 0);
        dueOrder(LATE, 0, -1, 1, 3, 2, 0, 4);
        dueOrder(LATE, 0, -1, 4, 1, 2, 3, 0);
        dueOrder(LATE, 0, -1, 1, 2, 3, 4, 0);
        dueOrder(LATE, 1, -1, 1, 2, 0, 4, 3);
    }

    private static void orderRefused() {
        B.sentence(21, "NONE: not as told, or no THINGS");
        for (int ways : new int[] {-1, 2, 3, 4, 5, 7, 8, MIN, MAX}) {
            dueOrder(PAIR, ways, -1, 0, 1);
        }
        FewBowls none = new FewBowls();
        B.due("order(0) of no bytes without THINGS", none.order(0), -1);
        B.due("order(1) of a byte without THINGS", Bench.order(none, 1, 0), -1);
        FewBowls x = Bench.with(PAIR);
        x.once(0);
        Bench.order(x, 0, 1, 0);
        B.due("onceAt(0) is as it was", x.onceAt(0), 0);
        B.due("count(0) is as it was", x.count(0), 2);
    }

    // Promise 22, and CELLAR

    private static void carry() {
        carryRawAreThere();
        carryUp();
        carryDown();
        carryMake();
        carryCantCome();
        carryRefused();
        carryMoreThan8();
    }

    private static void dueCarry(String net, int bowls, int want) {
        B.due("carry(" + bowls + ") of " + net, Bench.with(net).carry(bowls), want);
    }

    private static void carryRawAreThere() {
        B.sentence(22, "a cellar, where at first all RAW are");
        dueCarry("raw a;wish a;", 1, 0);
        dueCarry(EIGHT + "wish a b c d e f g h;", 1, 0);
        dueCarry(EIGHT + "wish a b c d e f g h;", 8, 0);
        dueCarry("raw a;make b of a;wish a b;", 2, 2);
    }

    private static void carryUp() {
        B.sentence(22, "UP x: what is in the cellar is FULL on the table, too");
        // It stays in the cellar: a comes up twice with 4 BOWLS.
        dueCarry(TWICE, 4, 5);
        dueCarry(TWICE, 5, 4);
        dueCarry(TWICE, 8, 4);
        // What was carried down comes up again: c waits below while r is made.
        dueCarry(TREE, 3, 7);
        dueCarry(TREE, 4, 5);
        dueCarry(LATE, 3, 4);
    }

    private static void carryDown() {
        B.sentence(22, "DOWN x: what is FULL is in the cellar, too; till all WISHED are in the cellar");
        // It stays on the table, so c is made of b without any UP.
        dueCarry("raw a;make b of a;make c of b;wish b c;", 2, 3);
        dueCarry("raw a;make b of a;make c of a;wish b c;", 2, 3);
        dueCarry(THREE, 4, 5);
        dueCarry(THREE, 5, 3);
    }

    private static void carryMake() {
        B.sentence(22, "MAKE (not RAW), WASH on the table, without WAYS");
        dueCarry(PAIR, 2, 2);
        dueCarry(LONG8, 2, 2);
        dueCarry(CHAIN, 2, 2);
        // MADE IN would do with one.
        dueCarry(PAIR, 1, -1);
        dueCarry(LONG8, 1, -1);
    }

    private static void carryCantCome() {
        B.sentence(22, "NONE: not so");
        dueCarry(TREE, 2, -1);
        dueCarry(TREE, 1, -1);
        dueCarry(TWICE, 3, -1);
        dueCarry(THREE, 3, -1);
        dueCarry("raw a;raw b;raw c;raw d;raw e;raw f;make g of a b c d e f;wish g;", 6, -1);
        dueCarry("raw a;raw b;raw c;raw d;raw e;raw f;make g of a b c d e f;wish g;", 7, 7);
    }

    private static void carryRefused() {
        B.sentence(22, "with B BOWLS (1 to 8); -2: not as told, no THINGS");
        for (int bowls : new int[] {0, -1, 9, 14, 33, MIN, MAX}) {
            dueCarry(PAIR, bowls, -2);
        }
        B.due("carry(1) without THINGS", new FewBowls().carry(1), -2);
        B.due("carry(0) without THINGS", new FewBowls().carry(0), -2);
    }

    private static void carryMoreThan8() {
        B.sentence(22, "-2: or more than 8");
        dueCarry(EIGHT + "wish h;", 1, 0);
        dueCarry(NINE, 1, -2);
        dueCarry(NINE, 8, -2);
        dueCarry(ALL, 8, -2);
    }

    // Promise 23, and COOKS

    private static void cooks() {
        cooksWashFirst();
        cooksMakeUpToK();
        cooksOfWhatIsFullThen();
        cooksAtMostB();
        cooksAnHourEach();
        cooksRefused();
        cooksMoreThan8();
    }

    private static void dueCooks(String net, int k, int bowls, int want) {
        B.due("cooks(" + k + ", " + bowls + ") of " + net, Bench.with(net).cooks(k, bowls), want);
    }

    private static void cooksWashFirst() {
        B.sentence(23, "in each HOUR first any THINGS are washed");
        dueCooks(CHAIN, 1, 2, 3);
        dueCooks(LONG8, 1, 2, 8);
        dueCooks("raw a;make b of a;make c of b;wish a c;", 1, 2, 4);
        // Two are washed in one HOUR, and two are made.
        dueCooks("raw a;raw b;make c of a b;raw d;raw e;make f of c d e;wish f;", 2, 4, 4);
        // What is washed does not serve in that HOUR.
        dueCooks(PAIR, 4, 1, -1);
    }

    private static void cooksMakeUpToK() {
        B.sentence(23, "then up to k (1 to 4) are made at once (RAW, too)");
        int[] hours = {8, 4, 3, 2};
        int[] five = {5, 3, 2, 2};
        for (int k = 1; k <= 4; k++) {
            dueCooks(EIGHT + "wish a b c d e f g h;", k, 8, hours[k - 1]);
            dueCooks("raw a;raw b;raw c;raw d;raw e;wish a b c d e;", k, 5, five[k - 1]);
            dueCooks("raw a;wish a;", k, 1, 1);
        }
        dueCooks("raw a;raw b;raw c;raw d;wish a b c d;", 4, 4, 1);
        dueCooks("raw a;raw b;raw c;raw d;wish a b c d;", 3, 4, 2);
    }

    private static void cooksOfWhatIsFullThen() {
        B.sentence(23, "each not FULL, of what is FULL then");
        for (int k = 1; k <= 4; k++) {
            dueCooks(PAIR, k, 8, 2);
            dueCooks(LONG8, k, 8, 8);
        }
        dueCooks(TREE, 4, 8, 3);
        dueCooks(TREE, 2, 8, 4);
    }

    private static void cooksAtMostB() {
        B.sentence(23, "all FULL then are at most B");
        int[] tree = {-1, -1, -1, 5, 4, 3, 3, 3};
        for (int bowls = 1; bowls <= 8; bowls++) {
            dueCooks(TREE, 4, bowls, tree[bowls - 1]);
        }
        dueCooks(EIGHT + "wish a b c d e f g h;", 4, 7, -1);
        dueCooks("raw a;raw b;wish a b;", 4, 1, -1);
    }

    private static void cooksAnHourEach() {
        B.sentence(23, "The fewest HOURS till all WISHED are FULL; NONE: not so");
        dueCooks(TWICE, 1, 4, 7);
        dueCooks(TWICE, 1, 5, 6);
        dueCooks(TWICE, 2, 4, 5);
        dueCooks(TWICE, 2, 5, 4);
        dueCooks(TWICE, 4, 3, -1);
        dueCooks(THREE, 3, 5, 3);
        dueCooks(THREE, 3, 4, -1);
        // At once and no later: b and c stand side by side for one HOUR.
        dueCooks("raw a;make b of a;make c of a;wish b c;", 2, 3, 2);
        dueCooks("raw a;make b of a;make c of a;wish b c;", 1, 3, 3);
        dueCooks("raw a;make b of a;make c of a;wish b c;", 2, 2, -1);
    }

    private static void cooksRefused() {
        B.sentence(23, "-2: not as told, no THINGS");
        for (int k : new int[] {0, -1, 5, 8, 33, MIN, MAX}) {
            dueCooks(PAIR, k, 2, -2);
        }
        for (int bowls : new int[] {0, -1, 9, 14, 33, MIN, MAX}) {
            dueCooks(PAIR, 1, bowls, -2);
        }
        B.due("cooks(1, 1) without THINGS", new FewBowls().cooks(1, 1), -2);
    }

    private static void cooksMoreThan8() {
        B.sentence(23, "-2: or more than 8");
        dueCooks(EIGHT + "wish h;", 1, 1, 1);
        dueCooks(NINE, 1, 1, -2);
        dueCooks(NINE, 4, 8, -2);
        dueCooks(ALL, 4, 8, -2);
    }

    // Promise 24, and PROMISED

    private static void promised() {
        promisesServe();
        promisesAreMadeGood();
        promisesFillBowls();
        promisedAtItsEdges();
        promisedRefused();
        smallOnesByTurns();
    }

    private static void duePromised(String net, int want) {
        B.due("promised() of " + net, Bench.with(net).promised(), want);
    }

    private static void promisesServe() {
        B.sentence(24, "a promise of a THING that is not FULL, which serves like it in a MAKE");
        // c and d are made, f of them and of e promised, and e is made good when c and d are washed.
        duePromised(THREE, 4);
        B.due("fewest(0) without", Bench.with(THREE).fewest(0), 5);
    }

    private static void promisesAreMadeGood() {
        B.sentence(24, "made good when all that it is made of are FULL or promised; WASH (not of promises); no promise being left");
        // If promises were washed or left, c and r promised would do with three, and so on.
        duePromised(TREE, 4);
        duePromised("raw a;make b of a;make c of a b;make d of c;wish d;", 3);
        duePromised(PAIR, 2);
        duePromised(CHAIN, 2);
        duePromised(LATE, 3);
    }

    private static void promisesFillBowls() {
        B.sentence(24, "FULL and promised ones are at most B");
        duePromised("raw a;raw b;raw c;raw d;raw e;raw f;make g of a b c d e f;wish g;", 7);
        duePromised("raw a;make b of a;make c of a;wish b c;", 3);
        duePromised("raw a;make b of a;make c of a b;wish a c;", 3);
        duePromised(TWICE, 4);
    }

    private static void promisedAtItsEdges() {
        B.sentence(24, "The least B with which all WISHED come to be FULL");
        duePromised("raw a;wish a;", 1);
        duePromised("raw a;raw b;wish a b;", 2);
        duePromised(EIGHT + "wish a b c d e f g h;", 8);
        duePromised(EIGHT + "wish h;", 1);
        duePromised(LONG8, 2);
    }

    private static void smallOnesByTurns() {
        B.sentence(24, "carry(), cooks() and promised(), each as if asked alone");
        FewBowls x = Bench.with(TREE);
        for (int turn = 0; turn < 3; turn++) {
            B.due("carry(3)", x.carry(3), 7);
            B.due("cooks(4, 6)", x.cooks(4, 6), 3);
            B.due("promised()", x.promised(), 4);
            B.due("carry(4)", x.carry(4), 5);
            B.due("acts(4, 8)", x.acts(4, 8), 13);
            B.due("cooks(1, 4)", x.cooks(1, 4), 7);
            B.due("carry(2)", x.carry(2), -1);
            B.due("cooks(4, 3)", x.cooks(4, 3), -1);
        }
    }

    private static void promisedRefused() {
        B.sentence(24, "NONE: no THINGS, or more than 8");
        B.due("promised() without THINGS", new FewBowls().promised(), -1);
        duePromised(NINE, -1);
        duePromised(ALL, -1);
        FewBowls x = Bench.with(NINE);
        Bench.net(x, EIGHT + "wish h;");
        B.due("promised() of 8 behind 9", x.promised(), 1);
    }
}
