/**
 * Promises 7 to 17, 25 and 28 to 31, and parts 2, 5 and 6 of the Terms: each sentence of the document
 * that names a boundary case has a test of its own, under that sentence's words.
 */
public final class EdgeSearchTest {
    private static final Bench B = new Bench("EdgeSearchTest");
    private static final int MIN = Integer.MIN_VALUE;
    private static final int MAX = Integer.MAX_VALUE;
    private static final int[] WRONG_WAYS = {-1, 8, 9, 15, 16, 256, MIN, MAX};
    private static final int[] WRONG_BOWLS = {0, -1, 15, 16, 33, MIN, MAX};

    private static final String PAIR = "raw a;make b of a;wish b;";
    private static final String CHAIN = "raw a;make b of a;make c of b;wish c;";
    /** The least kitchen with a THING of two and one of that. */
    private static final String FOUR = "raw a;raw b;make c of a b;make d of c;wish d;";
    /** With 4 BOWLS a must be made twice. */
    private static final String TWICE =
        "raw a costs 5;make b of a;raw p;raw q;make r of b p q;make s of r a;wish s;";
    private static final String RAWS =
        "raw a;raw b;raw c;raw d;raw e;raw f;raw g;raw h;raw i;raw j;raw k;raw l;raw m;raw n;";
    private static final String ALL = RAWS + "wish a b c d e f g h i j k l m n;";
    /** Each made of all ahead of it, up to six: 14 THINGS with the most COPIES. */
    private static final String THICK = "raw a;make b of a;make c of a b;make d of a b c;make e of a b c d;"
        + "make f of a b c d e;make g of a b c d e f;make h of b c d e f g;make i of c d e f g h;"
        + "make j of d e f g h i;make k of e f g h i j;make l of f g h i j k;make m of g h i j k l;"
        + "make n of h i j k l m;wish n;";
    private static final String LONG = "raw a;make b of a;make c of b;make d of c;make e of d;make f of e;make g of f;"
        + "make h of g;make i of h;make j of i;make k of j;make l of k;make m of l;make n of m;wish n;";

    public static void main(String[] args) {
        branchAndTree();
        actsOneByOne();
        ways();
        fewestAndAlone();
        acts();
        timesAndCost();
        reached();
        ready();
        judge();
        spare();
        B.close();
    }

    private static void branchAndTree() {
        branchOfRaw();
        branchOfMany();
        branchByFalling();
        branchRefused();
        copies();
        depth();
        treeThrows();
    }

    private static void actsOneByOne() {
        atFirstEmpty();
        neverMoreThanB();
        makeIfNotFull();
        makeIfAllAreFull();
        washIfFull();
        madeInAsMake();
        madeInOneOfThose();
        madeInIsNotFullThen();
        noMoreBowls();
    }

    private static void ways() {
        way1();
        way2Wash();
        way2MadeIn();
        way4();
        endAtAnyTime();
    }

    /** The PLAN in a new kitchen, judged. */
    private static int judged(String net, String plan, int ways, int bowls) {
        FewBowls x = Bench.with(net);
        Bench.plan(x, plan);
        return x.judge(ways, bowls);
    }

    private static void dueJudge(String net, String plan, int ways, int bowls, int want) {
        B.due("judge(" + ways + ", " + bowls + ") of " + plan, judged(net, plan, ways, bowls), want);
    }

    private static void dueActs(FewBowls x, int ways, int bowls, int... row) {
        B.due("acts(" + ways + ", " + bowls + ")", x.acts(ways, bowls), row.length);
        for (int i = 0; i < row.length; i++) {
            B.due("actAt(" + i + ") of acts(" + ways + ", " + bowls + ")", x.actAt(i), row[i]);
        }
        B.due("actAt past acts(" + ways + ", " + bowls + ")", x.actAt(row.length), -1);
    }

    private static void dueSpare(FewBowls x, int ways, int bowls, int... places) {
        B.due("spare(" + ways + ", " + bowls + ")", x.spare(ways, bowls), places.length);
        for (int i = 0; i < places.length; i++) {
            B.due("spareAt(" + i + ") of spare(" + ways + ", " + bowls + ")", x.spareAt(i), places[i]);
        }
        B.due("spareAt past spare(" + ways + ", " + bowls + ")", x.spareAt(places.length), -1);
    }

    // Promises 7 and 8, and part 5 of the Terms

    private static void branchOfRaw() {
        B.sentence(7, "RAW 1");
        FewBowls x = Bench.with(ALL);
        B.due("branch(0, false)", x.branch(0, false), 1);
        B.due("branch(13, false)", x.branch(13, false), 1);
        B.due("branch(0, true)", x.branch(0, true), 1);
    }

    private static void branchOfMany() {
        B.sentence(7, "the greatest of all b i + i - 1 and of how many they are and 1; in place: without");
        FewBowls x = Bench.with("raw a;raw b;raw c;raw d;raw e;raw f;make g of a;make h of a b;make i of a b c d e f;"
            + "make j of i;make k of i h;make l of h g;wish j k l;");
        int[] apart = {2, 3, 7, 7, 7, 3};
        int[] inPlace = {1, 2, 6, 6, 6, 2};
        for (int k = 6; k < 12; k++) {
            B.due("branch(" + k + ", false)", x.branch(k, false), apart[k - 6]);
            B.due("branch(" + k + ", true)", x.branch(k, true), inPlace[k - 6]);
        }
        FewBowls chain = Bench.with(LONG);
        B.due("branch(13, false) of a chain", chain.branch(13, false), 2);
        B.due("branch(13, true) of a chain", chain.branch(13, true), 1);
    }

    private static void branchByFalling() {
        B.sentence(7, "those that it is made of taken by falling BRANCH");
        // Told by rising BRANCH 1, 2, 3: as told they would make 1, 3, 5; falling 3, 3, 3.
        FewBowls x = Bench.with("raw a;make b of a;raw c;make d of a c;make e of a b d;make f of d b a;wish e f;");
        B.due("branch(4, false)", x.branch(4, false), 4);
        B.due("branch(4, true)", x.branch(4, true), 3);
        B.due("branch(5, false)", x.branch(5, false), 4);
        // Like ones one behind the other: 3, 4, 5.
        FewBowls like = Bench.with("raw a;raw b;make c of a b;make d of a b;make e of a b;make f of c d e;wish f;");
        B.due("branch of like ones", like.branch(5, false), 5);
        B.due("branch of like ones in place", like.branch(5, true), 4);
    }

    private static void branchRefused() {
        B.sentence(7, "NONE: no such one");
        FewBowls x = Bench.with(PAIR);
        for (int k : new int[] {-1, 2, 13, 14, 32, MIN, MAX}) {
            B.due("branch(" + k + ", false)", x.branch(k, false), -1);
            B.due("branch(" + k + ", true)", x.branch(k, true), -1);
        }
        B.due("branch(0, false) without THINGS", new FewBowls().branch(0, false), -1);
        B.due("branch(0, true) without THINGS", new FewBowls().branch(0, true), -1);
        FewBowls all = Bench.with(ALL);
        B.due("branch(14, false) of 14", all.branch(14, false), -1);
    }

    private static void copies() {
        B.sentence(8, "COPIES: how many makings, its own too");
        FewBowls x = Bench.with(THICK);
        int[] copies = new int[14];
        for (int k = 0; k < 14; k++) {
            copies[k] = 1;
            for (int p = Math.max(0, k - 6); p < k; p++) {
                copies[k] += copies[p];
            }
            B.due("tree(" + k + ", 0)", x.tree(k, 0), copies[k]);
        }
        B.due("tree(7, 0) as a number", x.tree(7, 0), 127);
        B.due("COPIES of a chain", Bench.with(LONG).tree(13, 0), 14);
        B.due("COPIES of RAW", Bench.with(ALL).tree(13, 0), 1);
    }

    private static void depth() {
        B.sentence(8, "DEPTH: RAW 0, else 1 more than the greatest of those");
        FewBowls x = Bench.with(LONG);
        for (int k = 0; k < 14; k++) {
            B.due("tree(" + k + ", 1)", x.tree(k, 1), k);
        }
        FewBowls y = Bench.with("raw a;make b of a;make c of b;raw d;make e of c d;make f of d;make g of d c b;wish g;");
        int[] depth = {0, 1, 2, 0, 3, 1, 3};
        for (int k = 0; k < depth.length; k++) {
            B.due("tree(" + k + ", 1) of some", y.tree(k, 1), depth[k]);
        }
    }

    private static void treeThrows() {
        B.sentence(8, "NoSuchElementException: no such one, another what");
        FewBowls x = Bench.with(PAIR);
        for (int k : new int[] {-1, 2, 13, 14, 32, MIN, MAX}) {
            B.treeThrows(x, k, 0);
            B.treeThrows(x, k, 1);
            B.treeThrows(x, k, 2);
        }
        for (int what : new int[] {-1, 2, 3, 32, MIN, MAX}) {
            B.treeThrows(x, 0, what);
            B.treeThrows(x, 1, what);
        }
        B.treeThrows(new FewBowls(), 0, 0);
        B.treeThrows(new FewBowls(), 0, 1);
        FewBowls all = Bench.with(ALL);
        B.treeThrows(all, 14, 0);
        B.due("tree(13, 1) of 14", all.tree(13, 1), 0);
    }

    // Part 2 of the Terms, ACT by ACT (promise 28)

    private static void atFirstEmpty() {
        B.sentence(28, "FULL is a set of THINGS, at first empty");
        dueJudge(FOUR, "wash a;", 0, 14, 0);
        dueJudge(FOUR, "make c;", 0, 14, 0);
        dueJudge(FOUR, "make c in a;", 1, 14, 0);
        FewBowls x = Bench.with(FOUR);
        Bench.plan(x, "make a;");
        B.due("judge()", x.judge(0, 14), -2);
        B.due("judge() once more begins anew", x.judge(0, 14), -2);
    }

    private static void neverMoreThanB() {
        B.sentence(28, "never more than B of them (BOWLS)");
        dueJudge(FOUR, "make a;make b;make c;make d;", 0, 1, 1);
        dueJudge(FOUR, "make a;make b;make c;make d;", 0, 2, 2);
        dueJudge(FOUR, "make a;make b;make c;make d;", 0, 3, 3);
        dueJudge(FOUR, "make a;make b;make c;make d;", 0, 4, 1004);
        dueJudge(FOUR, "make a;wash a;make b;", 0, 1, -4);
        StringBuilder all = new StringBuilder();
        for (char c = 'a'; c <= 'n'; c++) {
            all.append("make ").append(c).append(';');
        }
        dueJudge(ALL, all.toString(), 0, 14, 1014);
        dueJudge(ALL, all.toString(), 0, 13, 13);
    }

    private static void makeIfNotFull() {
        B.sentence(28, "MAKE THING x, if it is not FULL");
        dueJudge(FOUR, "make a;make a;", 0, 14, 1);
        dueJudge(FOUR, "make a;wash a;make a;", 0, 14, -4);
        dueJudge(FOUR, "make a;make b;make c;make c;", 0, 14, 3);
    }

    private static void makeIfAllAreFull() {
        B.sentence(28, "and all that it is made of are: it is FULL");
        dueJudge(FOUR, "make a;make c;", 0, 14, 1);
        dueJudge(FOUR, "make b;make c;", 0, 14, 1);
        dueJudge(FOUR, "make a;make b;wash a;make c;", 0, 14, 3);
        dueJudge(FOUR, "make a;make b;make c;", 0, 14, -4);
        // What they were made of in their turn is of no matter.
        dueJudge(FOUR, "make a;make b;make c;wash a;wash b;make d;", 0, 14, 1006);
    }

    private static void washIfFull() {
        B.sentence(28, "WASH x, if it is FULL: it is not");
        dueJudge(FOUR, "make a;wash b;", 0, 14, 1);
        dueJudge(FOUR, "make a;wash a;wash a;", 0, 14, 2);
        dueJudge(FOUR, "make a;make b;make c;wash c;make d;", 0, 14, 4);
        dueJudge(FOUR, "make a;make b;make c;wash c;wash b;wash a;", 0, 3, -7);
    }

    private static void madeInAsMake() {
        B.sentence(28, "x is MADE IN the bowl of y: as MAKE");
        dueJudge(FOUR, "make a;make c in a;", 1, 14, 1);
        dueJudge(FOUR, "make b;make c in a;", 1, 14, 1);
        dueJudge(FOUR, "make a;make b;make c;make c in a;", 1, 14, 3);
        dueJudge(FOUR, "make a;make b;make c in a;make d;", 1, 14, 1004);
        dueJudge(FOUR, "make a;make b;make c in b;make d;", 1, 14, 1004);
    }

    private static void madeInOneOfThose() {
        B.sentence(28, "if y is one of those that x is made of");
        dueJudge(FOUR, "make a;make a in a;", 1, 14, 1);
        dueJudge(FOUR, "make a;make b in a;", 1, 14, 1);
        dueJudge(FOUR, "make a;make b;make c;make d in a;", 1, 14, 3);
        dueJudge(FOUR, "make a;make b;make c;make d in d;", 1, 14, 3);
        dueJudge(FOUR, "make a;make b;make c;make d in c;", 1, 14, 1004);
        dueJudge(FOUR, "make a;make b;make c in d;", 1, 14, 2);
    }

    private static void madeInIsNotFullThen() {
        B.sentence(28, "y is not FULL then");
        dueJudge(FOUR, "make a;make b;make c in a;wash a;", 1, 14, 3);
        dueJudge(FOUR, "make a;make b;make c in a;wash b;", 1, 14, -5);
        dueJudge(FOUR, "make a;make b;make c in a;make a;", 1, 14, -5);
        dueJudge(FOUR, "make a;make b;make c in b;wash b;", 1, 14, 3);
        dueJudge(FOUR, "make a;make b;make c in a;make d in c;wash b;", 5, 14, 1005);
    }

    private static void noMoreBowls() {
        B.sentence(28, "(no more BOWLS are needed)");
        dueJudge(FOUR, "make a;make b;make c in a;make d in c;", 1, 2, 1004);
        dueJudge(FOUR, "make a;make b;make c;", 1, 2, 2);
        dueJudge(PAIR, "make a;make b in a;", 1, 1, 1002);
        dueJudge(FOUR, "make a;make b;make c in a;make a;", 1, 2, 3);
        B.due("fewest(1) of a long chain", Bench.with(LONG).fewest(1), 1);
    }

    // WAYS (promise 28)

    private static void way1() {
        B.sentence(28, "1: MADE IN is let");
        for (int ways = 0; ways < 8; ways++) {
            boolean let = (ways & 1) == 1;
            dueJudge(FOUR, "make a;make b;make c in a;", ways, 14, let ? -4 : 2);
            B.due("fewest(" + ways + ")", Bench.with(PAIR).fewest(ways), let ? 1 : 2);
        }
    }

    private static void way2Wash() {
        B.sentence(28, "2: WASH x only if all that x is made of are FULL, too (for RAW always)");
        for (int ways = 0; ways < 4; ways++) {
            boolean bound = (ways & 2) == 2;
            dueJudge(FOUR, "make a;make b;make c;wash a;wash c;", ways, 14, bound ? 4 : -6);
            dueJudge(FOUR, "make a;make b;make c;wash b;wash c;", ways, 14, bound ? 4 : -6);
            dueJudge(FOUR, "make a;make b;make c;wash c;", ways, 14, -5);
            dueJudge(FOUR, "make a;make b;make c;wash a;wash b;", ways, 14, -6);
            // Those that c is made of, not those that are made of c.
            dueJudge(FOUR, "make a;make b;make c;make d;wash c;", ways, 14, 1005);
        }
    }

    private static void way2MadeIn() {
        B.sentence(28, "2: and MADE IN the bowl of x, only if all that x is made of are FULL, too");
        dueJudge(FOUR, "make a;make b;make c;wash a;make d in c;", 1, 14, 1005);
        dueJudge(FOUR, "make a;make b;make c;wash a;make d in c;", 3, 14, 4);
        dueJudge(FOUR, "make a;make b;make c;wash b;make d in c;", 3, 14, 4);
        dueJudge(FOUR, "make a;make b;make c;make d in c;", 3, 14, 1004);
        dueJudge(FOUR, "make a;make b;make c in a;", 3, 14, -4);
        dueJudge(FOUR, "make a;make b;make c in a;make d in c;", 3, 14, 3);
    }

    private static void way4() {
        B.sentence(28, "4: at the END just the WISHED are FULL; without 4: these, and whatever else");
        for (int ways = 0; ways < 8; ways++) {
            boolean just = (ways & 4) == 4;
            dueJudge(FOUR, "make a;make b;make c;make d;", ways, 14, just ? -5 : 1004);
            dueJudge(FOUR, "make a;make b;make c;make d;wash c;wash b;wash a;", ways, 14, 1007);
            dueJudge("raw a;raw b;wish a b;", "make a;", ways, 14, -2);
            dueJudge("raw a;raw b;wish a b;", "make b;", ways, 14, -2);
            dueJudge("raw a;raw b;wish a b;", "make b;make a;", ways, 14, 1002);
            dueJudge("raw a;raw b;wish a;", "make b;make a;", ways, 14, just ? -3 : 1002);
        }
    }

    private static void endAtAnyTime() {
        B.sentence(28, "The END may come at any time");
        dueJudge("raw a;wish a;", "make a;", 0, 1, 1001);
        dueJudge("raw a;wish a;", "make a;wash a;", 0, 1, -3);
        dueJudge("raw a;wish a;", "make a;wash a;make a;", 0, 1, 1003);
        dueActs(Bench.with("raw a;wish a;"), 7, 1, 0);
    }

    // Promises 9 and 14

    private static void fewestAndAlone() {
        fewestIsTheLeast();
        fewestAtItsEdges();
        fewestRefused();
        aloneIsOfOne();
        aloneRefused();
    }

    private static void fewestIsTheLeast() {
        B.sentence(9, "FEWEST: the least B with which the END can come");
        for (String net : new String[] {PAIR, CHAIN, FOUR, TWICE, "raw a;raw b;wish a b;"}) {
            FewBowls x = Bench.with(net);
            for (int ways = 0; ways < 8; ways++) {
                int least = x.fewest(ways);
                B.due("acts with FEWEST", x.acts(ways, least) > 0, true);
                if (least > 1) {
                    B.due("acts with one less", x.acts(ways, least - 1), -1);
                }
            }
        }
        int[] twice = {4, 3, 4, 3, 4, 3, 5, 5};
        for (int ways = 0; ways < 8; ways++) {
            B.due("fewest(" + ways + ")", Bench.with(TWICE).fewest(ways), twice[ways]);
        }
    }

    private static void fewestAtItsEdges() {
        B.sentence(9, "FEWEST by WAYS (0 to 7)");
        FewBowls one = Bench.with("raw a;wish a;");
        FewBowls all = Bench.with(ALL);
        for (int ways = 0; ways < 8; ways++) {
            B.due("fewest(" + ways + ") of one", one.fewest(ways), 1);
            B.due("fewest(" + ways + ") of 14", all.fewest(ways), 14);
        }
        FewBowls six = Bench.with("raw a;raw b;raw c;raw d;raw e;raw f;make g of a b c d e f;wish g;");
        int[] fewest = {7, 6, 7, 6, 7, 6, 7, 6};
        for (int ways = 0; ways < 8; ways++) {
            B.due("fewest(" + ways + ") of six", six.fewest(ways), fewest[ways]);
        }
        B.due("fewest(0) of a long chain", Bench.with(LONG).fewest(0), 2);
    }

    private static void fewestRefused() {
        B.sentence(9, "NONE: not as told, or no THINGS");
        FewBowls x = Bench.with(FOUR);
        for (int ways : WRONG_WAYS) {
            B.due("fewest(" + ways + ")", x.fewest(ways), -1);
        }
        for (int ways = 0; ways < 8; ways++) {
            B.due("fewest(" + ways + ") without THINGS", new FewBowls().fewest(ways), -1);
        }
        B.due("fewest(0) behind those", x.fewest(0), 3);
    }

    private static void aloneIsOfOne() {
        B.sentence(14, "ALONE x: FEWEST, if x were WISHED alone");
        FewBowls x = Bench.with("raw a;raw b;make c of a b;raw d;raw e;make f of d e;wish a b c d e;");
        int[] alone = {1, 1, 3, 1, 1, 3};
        for (int k = 0; k < 6; k++) {
            B.due("alone(" + k + ", 0)", x.alone(k, 0), alone[k]);
            B.due("alone(" + k + ", 4)", x.alone(k, 4), alone[k]);
            B.due("alone(" + k + ", 1)", x.alone(k, 1), alone[k] == 3 ? 2 : 1);
        }
        B.due("fewest(0) is of the WISHED still", x.fewest(0), 5);
        B.due("alone(13, 7) of 14", Bench.with(ALL).alone(13, 7), 1);
    }

    private static void aloneRefused() {
        B.sentence(14, "NONE: not as told, or no such one");
        FewBowls x = Bench.with(FOUR);
        for (int k : new int[] {-1, 4, 13, 14, 32, MIN, MAX}) {
            B.due("alone(" + k + ", 0)", x.alone(k, 0), -1);
        }
        for (int ways : WRONG_WAYS) {
            B.due("alone(0, " + ways + ")", x.alone(0, ways), -1);
        }
        B.due("alone(0, 0) without THINGS", new FewBowls().alone(0, 0), -1);
    }

    // Promises 10, 11 and 12

    private static void acts() {
        actsAtTheirEdges();
        actsCantCome();
        actsRefused();
        firstOfLikeOnes();
        actAtNone();
        actAtOfTheLatest();
        rowsAreCounted();
        rowsAtMost();
        rowsOfTheLatest();
    }

    private static void actsAtTheirEdges() {
        B.sentence(10, "LEAST ACTS by WAYS with B (1 to 14) BOWLS: how many");
        FewBowls x = Bench.with(LONG);
        B.due("acts(1, 1)", x.acts(1, 1), 14);
        B.due("actAt(13)", x.actAt(13), 100 + 20 * 13 + 12);
        B.due("acts(0, 14)", x.acts(0, 14), 14);
        B.due("actAt(13) with 14", x.actAt(13), 13);
        B.due("acts(4, 14)", x.acts(4, 14), 27);
        B.due("acts(7, 14)", x.acts(7, 14), 26);
        B.due("acts(0, 2)", x.acts(0, 2), 26);
        B.due("acts(0, 13)", x.acts(0, 13), 15);
        B.due("more BOWLS than THINGS", Bench.with("raw a;wish a;").acts(0, 14), 1);
        dueActs(Bench.with("raw a;raw b;wish b;"), 0, 1, 1);
    }

    private static void actsCantCome() {
        B.sentence(10, "NONE: the END can't come");
        B.due("acts(0, 1) of a pair", Bench.with(PAIR).acts(0, 1), -1);
        B.due("acts(6, 2) of a chain", Bench.with(CHAIN).acts(6, 2), -1);
        B.due("acts(0, 13) of 14", Bench.with(ALL).acts(0, 13), -1);
        B.due("acts(7, 13) of 14", Bench.with(ALL).acts(7, 13), -1);
        B.due("acts(0, 1) of two", Bench.with("raw a;raw b;wish a b;").acts(0, 1), -1);
    }

    private static void actsRefused() {
        B.sentence(10, "-2: not as told, or no THINGS");
        FewBowls x = Bench.with(FOUR);
        for (int ways : WRONG_WAYS) {
            B.due("acts(" + ways + ", 4)", x.acts(ways, 4), -2);
        }
        for (int bowls : WRONG_BOWLS) {
            B.due("acts(0, " + bowls + ")", x.acts(0, bowls), -2);
        }
        B.due("acts(0, 1) without THINGS", new FewBowls().acts(0, 1), -2);
        B.due("acts(0, 0) without THINGS", new FewBowls().acts(0, 0), -2);
    }

    private static void firstOfLikeOnes() {
        B.sentence(11, "of like ones the first (ACT by ACT the lesser number)");
        FewBowls x = Bench.with(FOUR);
        dueActs(x, 0, 3, 0, 1, 2, 20, 3);
        dueActs(x, 1, 2, 0, 1, 140, 162);
        dueActs(x, 3, 2, 0, 1, 140, 21, 3);
        dueActs(x, 4, 3, 0, 1, 2, 20, 3, 21, 22);
        dueActs(x, 5, 2, 0, 1, 140, 21, 162);
        dueActs(x, 6, 4, 0, 1, 2, 3, 22, 20, 21);
        dueActs(x, 7, 3, 0, 1, 2, 162, 20, 21);
        // MADE IN is as short as MAKE here, but a greater number.
        dueActs(Bench.with(PAIR), 1, 2, 0, 1);
    }

    private static void actAtNone() {
        B.sentence(11, "NONE: there is none such, or ahead of any");
        FewBowls x = Bench.with(FOUR);
        for (int i : new int[] {-1, 0, 1, MIN, MAX}) {
            B.due("actAt(" + i + ") ahead of any", x.actAt(i), -1);
        }
        x.acts(0, 2);
        B.due("actAt(0) behind NONE alone", x.actAt(0), -1);
        x.acts(0, 4);
        for (int i : new int[] {-1, 4, 5, 32, MIN, MAX}) {
            B.due("actAt(" + i + ")", x.actAt(i), -1);
        }
        B.due("actAt(3)", x.actAt(3), 3);
    }

    private static void actAtOfTheLatest() {
        B.sentence(11, "by the latest acts() that told a number");
        FewBowls x = Bench.with(FOUR);
        x.acts(4, 3);
        x.acts(4, 2);
        x.acts(8, 3);
        x.acts(0, 0);
        B.due("actAt(6) behind NONE and -2", x.actAt(6), 22);
        x.acts(0, 4);
        B.due("actAt(4) of a shorter one", x.actAt(4), -1);
        B.due("actAt(2) of a shorter one", x.actAt(2), 2);
        x.fewest(0);
        x.cost(1, 2);
        x.ready(0);
        Bench.net(x, "raw z;wish z;");
        B.due("actAt(3) with another NET", x.actAt(3), 3);
        Bench.net(x, "raw");
        x.acts(0, 1);
        B.due("actAt(1) of one ACT", x.actAt(1), -1);
    }

    private static void rowsAreCounted() {
        B.sentence(12, "ROWS: how many rows of LEAST ACTS there are");
        int[] rows = {4, 4, 4, 4, 12, 8, 4, 4};
        FewBowls x = Bench.with(FOUR);
        for (int ways = 0; ways < 8; ways++) {
            x.acts(ways, x.fewest(ways));
            B.due("rows() by " + ways, x.rows(), rows[ways]);
        }
        FewBowls pair = Bench.with(PAIR);
        pair.acts(0, 2);
        B.due("rows() of a pair", pair.rows(), 1);
        pair.acts(1, 2);
        B.due("rows() of a pair, MADE IN too", pair.rows(), 2);
    }

    private static void rowsAtMost() {
        B.sentence(12, "(10^15 at most are counted)");
        // Two of six RAW each, all washed: (26 over 13) (6! 6!)^2 rows, some 2.8 * 10^18.
        FewBowls x = Bench.with("raw a;raw b;raw c;raw d;raw e;raw f;make g of a b c d e f;"
            + "raw h;raw i;raw j;raw k;raw l;raw m;make n of h i j k l m;wish g n;");
        B.due("acts(4, 14)", x.acts(4, 14), 26);
        B.due("rows() of more", x.rows(), 1_000_000_000_000_000L);
        // One of six washed alone: 6! 6! rows.
        FewBowls six = Bench.with("raw a;raw b;raw c;raw d;raw e;raw f;make g of a b c d e f;wish g;");
        B.due("acts(4, 7)", six.acts(4, 7), 13);
        B.due("rows() of fewer", six.rows(), 720L * 720);
        FewBowls all = Bench.with(ALL);
        all.acts(0, 14);
        B.due("rows() past what an int holds", all.rows(), 87_178_291_200L);
    }

    private static void rowsOfTheLatest() {
        B.sentence(12, "for the latest acts() that told a number; 0 ahead of any");
        FewBowls x = new FewBowls();
        B.due("rows() ahead of any", x.rows(), 0);
        x.acts(0, 1);
        B.due("rows() behind -2", x.rows(), 0);
        Bench.net(x, FOUR);
        x.acts(0, 2);
        B.due("rows() behind NONE", x.rows(), 0);
        x.acts(4, 3);
        x.acts(4, 2);
        x.acts(-1, 3);
        x.acts(4, 15);
        B.due("rows() behind NONE and -2", x.rows(), 12);
        Bench.net(x, PAIR);
        B.due("rows() with another NET", x.rows(), 12);
        x.acts(0, 2);
        B.due("rows() of a pair", x.rows(), 1);
    }

    // Promises 13 and 15

    private static void timesAndCost() {
        timesOfEach();
        timesCantCome();
        timesRefused();
        costEachTime();
        costAtItsEdges();
        costCantCome();
        costRefused();
    }

    private static void timesOfEach() {
        B.sentence(13, "TIMES of x: the fewest times that x is made (in a bowl, too) in any row to the END");
        FewBowls x = Bench.with(TWICE);
        int[] with4 = {2, 1, 1, 1, 1, 1};
        for (int k = 0; k < 6; k++) {
            B.due("times(" + k + ", 0, 4)", x.times(k, 0, 4), with4[k]);
            B.due("times(" + k + ", 0, 5)", x.times(k, 0, 5), 1);
        }
        FewBowls pair = Bench.with("raw a;make b of a;raw c;wish b;");
        B.due("times(1, 1, 1) in a bowl", pair.times(1, 1, 1), 1);
        B.due("times(2, 0, 2) of what is not NEEDED", pair.times(2, 0, 2), 0);
        // What costs nothing is counted like the rest.
        B.due("times of what costs 0", Bench.with("raw a costs 0;wish a;").times(0, 0, 1), 1);
        B.due("times(13, 7, 14) of 14", Bench.with(ALL).times(13, 7, 14), 1);
    }

    private static void timesCantCome() {
        B.sentence(13, "NONE: the END can't come");
        FewBowls x = Bench.with("raw a;make b of a;raw c;wish b;");
        B.due("times(0, 0, 1)", x.times(0, 0, 1), -1);
        B.due("times(2, 0, 1) of what is not NEEDED", x.times(2, 0, 1), -1);
        B.due("times(13, 0, 13) of 14", Bench.with(ALL).times(13, 0, 13), -1);
    }

    private static void timesRefused() {
        B.sentence(13, "-2: not as told, or no such one");
        FewBowls x = Bench.with(PAIR);
        for (int k : new int[] {-1, 2, 13, 14, 32, MIN, MAX}) {
            B.due("times(" + k + ", 0, 2)", x.times(k, 0, 2), -2);
            // Also where the END can't come.
            B.due("times(" + k + ", 0, 1)", x.times(k, 0, 1), -2);
        }
        for (int ways : WRONG_WAYS) {
            B.due("times(0, " + ways + ", 2)", x.times(0, ways, 2), -2);
        }
        for (int bowls : WRONG_BOWLS) {
            B.due("times(0, 0, " + bowls + ")", x.times(0, 0, bowls), -2);
        }
        B.due("times(0, 0, 1) without THINGS", new FewBowls().times(0, 0, 1), -2);
    }

    private static void costEachTime() {
        B.sentence(15, "COST: the least sum over all MAKE and MADE IN of what x costs (each time)");
        FewBowls x = Bench.with(TWICE);
        B.due("cost(0, 4), a twice", x.cost(0, 4), 15);
        B.due("cost(0, 5)", x.cost(0, 5), 10);
        B.due("cost(1, 3)", x.cost(1, 3), 15);
        B.due("cost(1, 4)", x.cost(1, 4), 10);
        FewBowls in = Bench.with("raw a costs 20;make b of a costs 30;wish b;");
        B.due("cost(1, 1) in a bowl", in.cost(1, 1), 50);
        B.due("cost(0, 2)", in.cost(0, 2), 50);
    }

    private static void costAtItsEdges() {
        B.sentence(15, "COST by WAYS with B BOWLS");
        FewBowls free = Bench.with("raw a costs 0;make b of a costs 0;raw c costs 99;wish b;");
        B.due("cost of what costs nothing", free.cost(0, 2), 0);
        FewBowls dear = Bench.with(ALL.replace(";", " costs 99;").replace("n costs 99;wish", "n costs 98;wish")
            .replace("m n costs 99;", "m n;"));
        B.due("cost of 14", dear.cost(0, 14), 99 * 13 + 98);
        FewBowls x = Bench.with("raw a costs 99;raw b costs 0;wish a b;");
        B.due("cost(0, 2) of 99 and 0", x.cost(0, 2), 99);
        B.due("cost(4, 14) of 99 and 0", x.cost(4, 14), 99);
    }

    private static void costCantCome() {
        B.sentence(15, "NONE: the END can't come");
        B.due("cost(0, 3)", Bench.with(TWICE).cost(0, 3), -1);
        B.due("cost(6, 4)", Bench.with(TWICE).cost(6, 4), -1);
        B.due("cost(0, 13) of 14", Bench.with(ALL).cost(0, 13), -1);
        B.due("cost(0, 1) of what costs nothing", Bench.with("raw a costs 0;make b of a costs 0;wish b;").cost(0, 1), -1);
    }

    private static void costRefused() {
        B.sentence(15, "-2: not as told, or no THINGS");
        FewBowls x = Bench.with(PAIR);
        for (int ways : WRONG_WAYS) {
            B.due("cost(" + ways + ", 2)", x.cost(ways, 2), -2);
        }
        for (int bowls : WRONG_BOWLS) {
            B.due("cost(0, " + bowls + ")", x.cost(0, bowls), -2);
        }
        B.due("cost(0, 1) without THINGS", new FewBowls().cost(0, 1), -2);
    }

    // Promises 16 and 17

    private static void reached() {
        reachedSets();
        reachedByTheNetOfNow();
        reachedRefused();
        canBeOneOfThose();
        canBeRefused();
    }

    private static void reachedSets() {
        B.sentence(16, "REACHED: how many sets FULL can be with B; WAYS (4 is of no matter)");
        int[][] four = {{3, 4, 15, 16}, {3, 11, 15, 16}, {3, 4, 11, 16}, {3, 8, 15, 16}};
        FewBowls x = Bench.with(FOUR);
        for (int ways = 0; ways < 8; ways++) {
            for (int bowls = 1; bowls <= 4; bowls++) {
                B.due("reached(" + ways + ", " + bowls + ")", x.reached(ways, bowls), four[ways & 3][bowls - 1]);
            }
            B.due("reached(" + ways + ", 5)", x.reached(ways, 5), 16);
            B.due("reached(" + ways + ", 14)", x.reached(ways, 14), 16);
        }
        FewBowls all = Bench.with(ALL);
        B.due("reached(0, 1) of 14", all.reached(0, 1), 15);
        B.due("reached(0, 13) of 14", all.reached(0, 13), 16383);
        B.due("reached(0, 14) of 14", all.reached(0, 14), 16384);
        B.due("reached(0, 1) of one", Bench.with("raw a;wish a;").reached(0, 1), 2);
    }

    private static void reachedByTheNetOfNow() {
        B.sentence(16, "how many sets FULL can be, by the NET of now");
        FewBowls x = new FewBowls();
        String[] nets = {PAIR, "raw a;raw b;wish a;", FOUR, "raw a;wish a;", CHAIN};
        for (String net : nets) {
            Bench.net(x, net);
            // The first by the WAYS that were asked for last with the NET of before.
            for (int ways : new int[] {3, 2, 1, 0, 3}) {
                B.due("reached() behind another NET", x.reached(ways, 2), Bench.with(net).reached(ways, 2));
            }
            B.due("fewest(3) behind another NET", x.fewest(3), Bench.with(net).fewest(3));
            Bench.net(x, net);
            B.due("canBe() behind the same NET", x.canBe(3, 1, 1), 1);
        }
        // By turns of WAYS and B, each as if asked alone.
        Bench.net(x, FOUR);
        B.due("reached(1, 3)", x.reached(1, 3), 15);
        B.due("reached(1, 2)", x.reached(1, 2), 11);
        B.due("reached(0, 2)", x.reached(0, 2), 4);
        B.due("reached(1, 4)", x.reached(1, 4), 16);
        B.due("reached(1, 1)", x.reached(1, 1), 3);
    }

    private static void reachedRefused() {
        B.sentence(16, "NONE: not as told, or no THINGS");
        FewBowls x = Bench.with(PAIR);
        for (int ways : WRONG_WAYS) {
            B.due("reached(" + ways + ", 2)", x.reached(ways, 2), -1);
        }
        for (int bowls : WRONG_BOWLS) {
            B.due("reached(0, " + bowls + ")", x.reached(0, bowls), -1);
        }
        B.due("reached(0, 1) without THINGS", new FewBowls().reached(0, 1), -1);
    }

    private static void canBeOneOfThose() {
        B.sentence(17, "The set FULL (as bits) is one of those: 1, 0 not");
        for (String net : new String[] {PAIR, CHAIN, FOUR}) {
            for (int ways = 0; ways < 8; ways++) {
                FewBowls x = Bench.with(net);
                int sets = 1 << x.count(0);
                for (int bowls = 1; bowls <= 5; bowls++) {
                    int many = 0;
                    for (int full = 0; full < sets; full++) {
                        many += x.canBe(ways, bowls, full);
                    }
                    B.due("those that can be by " + ways + " with " + bowls, many, x.reached(ways, bowls));
                    B.due("the empty one can be", x.canBe(ways, bowls, 0), 1);
                }
            }
        }
        FewBowls x = Bench.with(FOUR);
        B.due("canBe(0, 2, 7), one too many", x.canBe(0, 2, 7), 0);
        B.due("canBe(0, 3, 7)", x.canBe(0, 3, 7), 1);
        B.due("canBe(0, 3, 15)", x.canBe(0, 3, 15), 0);
        B.due("canBe(0, 4, 15)", x.canBe(0, 4, 15), 1);
        B.due("canBe(0, 2, 4)", x.canBe(0, 2, 4), 0);
        B.due("canBe(1, 2, 4)", x.canBe(1, 2, 4), 1);
        B.due("canBe(2, 3, 8), c can't be washed", x.canBe(2, 3, 8), 0);
        B.due("canBe(2, 4, 8)", x.canBe(2, 4, 8), 1);
        FewBowls all = Bench.with(ALL);
        B.due("canBe(0, 14, 16383)", all.canBe(0, 14, 16383), 1);
        B.due("canBe(0, 13, 16383)", all.canBe(0, 13, 16383), 0);
    }

    private static void canBeRefused() {
        B.sentence(17, "NONE: not as told, or no THINGS");
        FewBowls x = Bench.with(PAIR);
        for (int full : new int[] {4, 5, 7, 16384, -1, -4, MIN, MAX}) {
            B.due("canBe(0, 2, " + full + ")", x.canBe(0, 2, full), -1);
        }
        for (int ways : WRONG_WAYS) {
            B.due("canBe(" + ways + ", 2, 0)", x.canBe(ways, 2, 0), -1);
        }
        for (int bowls : WRONG_BOWLS) {
            B.due("canBe(0, " + bowls + ", 0)", x.canBe(0, bowls, 0), -1);
        }
        B.due("canBe(0, 1, 0) without THINGS", new FewBowls().canBe(0, 1, 0), -1);
        B.due("canBe(0, 14, 16384) of 14", Bench.with(ALL).canBe(0, 14, 16384), -1);
    }

    // Promise 25

    private static void ready() {
        readyIsTheBest();
        readyMakesItLess();
        readyByWay4();
        readyRefused();
    }

    private static void readyIsTheBest() {
        B.sentence(25, "READY: the one with which, being RAW, FEWEST is least; of like ones the least");
        // Two of two RAW each: either makes it less by one, none by more.
        B.due("of like ones", Bench.with("raw a;raw b;make c of a b;make d of a b;wish c d;").ready(0), 2);
        // d makes it less than c does.
        B.due("a later one", Bench.with("raw a;raw b;make c of a b;raw p;raw q;raw r;make d of p q r;wish c d;").ready(0), 6);
        B.due("WISHED itself", Bench.with(TWICE).ready(0), 5);
        B.due("ready(1) of four", Bench.with(FOUR).ready(1), 2);
        B.due("ready(0) of four", Bench.with(FOUR).ready(0), 3);
    }

    private static void readyMakesItLess() {
        B.sentence(25, "of the THINGS that are not RAW, if it is less than without");
        B.due("RAW alone", Bench.with(ALL).ready(0), -1);
        B.due("none makes it less", Bench.with("raw a;make b of a;wish a b;").ready(0), -1);
        B.due("what is not NEEDED does not", Bench.with("raw a;raw b;make c of a b;wish a;").ready(0), -1);
        B.due("in place none does", Bench.with(CHAIN).ready(1), -1);
        FewBowls x = Bench.with(FOUR);
        x.ready(0);
        B.due("fewest(0) is as without", x.fewest(0), 3);
        B.due("thing(3, 1) is not RAW", x.thing(3, 1), 0);
        B.due("reached(2, 3) is as without", x.reached(2, 3), 11);
    }

    private static void readyByWay4() {
        B.sentence(25, "(without WAYS 4 or with, as told)");
        // Washed only as it was made, b must go at the END by 6; being RAW it can go without a. By 2 it may stay.
        FewBowls x = Bench.with("raw a;make b of a;make c of b a;make d of b;wish c d;");
        int[] ready = {2, -1, -1, 1, 2, -1, 1, 1};
        for (int ways = 0; ways < 8; ways++) {
            B.due("ready(" + ways + ")", x.ready(ways), ready[ways]);
        }
    }

    private static void readyRefused() {
        B.sentence(25, "NONE: none makes it less, not as told, or no THINGS");
        FewBowls x = Bench.with(FOUR);
        for (int ways : WRONG_WAYS) {
            B.due("ready(" + ways + ")", x.ready(ways), -1);
        }
        for (int ways = 0; ways < 8; ways++) {
            B.due("ready(" + ways + ") without THINGS", new FewBowls().ready(ways), -1);
        }
    }

    // Promises 28 and 29

    private static void judge() {
        judgeHowManyAreDone();
        judgeAllLet();
        judgeOfThingsThatAreNone();
        judgeRefused();
        judgedMostFull();
        judgedCost();
        judgedNone();
    }

    private static void judgeHowManyAreDone() {
        B.sentence(28, "how many ACTS are done till the first one that is not LET");
        dueJudge(PAIR, "wash a;make a;make b;", 0, 2, 0);
        dueJudge(PAIR, "make a;wash b;make b;", 0, 2, 1);
        dueJudge(PAIR, "make a;make b;make b;", 0, 2, 2);
        // Of 60 the last.
        dueJudge(PAIR, "make a;" + "wash a;make a;".repeat(29) + "wash b;", 0, 2, 59);
    }

    private static void judgeAllLet() {
        B.sentence(28, "-1 less how many ACTS it has, if all are LET, but that is not the END; 1000 and how many, if it is");
        dueJudge(PAIR, "", 0, 1, -1);
        dueJudge(PAIR, "make a;", 0, 1, -2);
        dueJudge(PAIR, "make a;make b;", 0, 2, 1002);
        dueJudge(PAIR, "make a;wash a;".repeat(30), 0, 1, -61);
        dueJudge(PAIR, "make a;wash a;".repeat(29) + "make a;make b;", 0, 2, 1060);
        FewBowls x = Bench.with(PAIR);
        B.due("judge() of the PLAN of a new object", x.judge(7, 14), -1);
    }

    private static void judgeOfThingsThatAreNone() {
        B.sentence(28, "not as told in 2 (also one of THINGS that are none now)");
        FewBowls x = Bench.with(RAWS.substring(0, 78) + "make n of a b;wish n;");
        Bench.plan(x, "make a;make b;make n;");
        Bench.net(x, "raw a;raw b;wish a;");
        B.due("MAKE", x.judge(0, 14), 2);
        Bench.net(x, RAWS.substring(0, 78) + "make n of a b;wish n;");
        Bench.plan(x, "make a;make b;wash n;");
        Bench.net(x, "raw a;raw b;wish a;");
        B.due("WASH", x.judge(0, 14), 2);
        Bench.net(x, "raw a;raw b;make c of a b;wish c;");
        Bench.plan(x, "make a;make b;make c in b;");
        B.due("MADE IN", x.judge(1, 14), 1003);
        Bench.net(x, "raw a;raw b;wish a;");
        B.due("MADE IN, x being none", x.judge(1, 14), 2);
        Bench.net(x, "raw a;raw b;make c of a b;raw d;wish c;");
        Bench.plan(x, "make a;make b;make c in d;");
        Bench.net(x, "raw a;raw b;make c of a b;wish c;");
        B.due("MADE IN, y being none", x.judge(1, 14), 2);
        // Also the first ACT of all; what is none is not taken for another.
        for (String plan : new String[] {"make d;", "wash d;", "make d in a;", "make c in d;", "make a in b;"}) {
            Bench.net(x, "raw a;raw b;make c of a b;raw d;wish c;");
            Bench.plan(x, plan);
            Bench.net(x, "raw a;raw b;make c of a b;wish c;");
            for (int ways = 0; ways < 8; ways++) {
                B.due("judge(" + ways + ", 14) of " + plan, x.judge(ways, 14), 0);
                B.due("spare(" + ways + ", 14) of " + plan, x.spare(ways, 14), -1);
            }
        }
        // The numbers stand for other THINGS now, made of others.
        Bench.plan(x, "make a;make c;");
        Bench.net(x, "raw x;raw y;make z of x;wish z;");
        B.due("by the NET of now", x.judge(0, 2), 1002);
    }

    private static void judgeRefused() {
        B.sentence(28, "-1000: not as told, or no THINGS");
        FewBowls x = Bench.with(PAIR);
        Bench.plan(x, "make a;make b;");
        for (int ways : WRONG_WAYS) {
            B.due("judge(" + ways + ", 2)", x.judge(ways, 2), -1000);
        }
        for (int bowls : WRONG_BOWLS) {
            B.due("judge(0, " + bowls + ")", x.judge(0, bowls), -1000);
        }
        B.due("judge(0, 1) without THINGS", new FewBowls().judge(0, 1), -1000);
    }

    private static void judgedMostFull() {
        B.sentence(29, "The greatest number of THINGS FULL at once in the ACTS done (0)");
        FewBowls x = Bench.with(FOUR);
        int[][] due = {{0, 1, 1}, {0, 2, 2}, {0, 3, 3}, {0, 4, 3}, {1, 14, 3}};
        Bench.plan(x, "make a;make b;make c;wash a;wash b;make d;wash c;");
        for (int[] one : due) {
            x.judge(one[0], one[1]);
            B.due("judged(0) of judge(" + one[0] + ", " + one[1] + ")", x.judged(0), one[2]);
        }
        Bench.plan(x, "make a;make b;make c in a;make d in c;");
        x.judge(1, 14);
        B.due("judged(0) in place", x.judged(0), 2);
        Bench.plan(x, "wash a;make a;");
        x.judge(0, 14);
        B.due("judged(0) of none done", x.judged(0), 0);
        Bench.plan(x, "");
        x.judge(0, 14);
        B.due("judged(0) of an empty PLAN", x.judged(0), 0);
    }

    private static void judgedCost() {
        B.sentence(29, "what their makings cost together (1)");
        FewBowls x = Bench.with("raw a costs 99;make b of a costs 50;raw z costs 0;wish b;");
        Bench.plan(x, "make a;wash a;make a;make b;wash a;make a;");
        x.judge(0, 2);
        B.due("judged(1), each time", x.judged(1), 99 * 3 + 50);
        x.judge(0, 1);
        B.due("judged(1) without the one that is not LET", x.judged(1), 99 * 2);
        Bench.plan(x, "make a;make b in a;make z;wash z;");
        x.judge(1, 2);
        B.due("judged(1) in a bowl", x.judged(1), 149);
        Bench.plan(x, "make a;wash a;".repeat(30));
        x.judge(0, 1);
        B.due("judged(1) of 30", x.judged(1), 99 * 30);
        Bench.plan(x, "make b;make a;");
        x.judge(0, 1);
        B.due("judged(1) of none done", x.judged(1), 0);
    }

    private static void judgedNone() {
        B.sentence(29, "by the latest judge() that was as told; NONE: another what, or ahead of any");
        FewBowls x = new FewBowls();
        x.judge(0, 1);
        Bench.net(x, PAIR);
        x.judge(8, 1);
        x.judge(0, 15);
        for (int what = -1; what <= 2; what++) {
            B.due("judged(" + what + ") ahead of any", x.judged(what), -1);
        }
        Bench.plan(x, "make a;make b;");
        x.judge(0, 2);
        x.judge(-1, 2);
        x.judge(0, 0);
        Bench.plan(x, "make a;");
        Bench.net(x, "raw a costs 9;wish a;");
        B.due("judged(0) stays", x.judged(0), 2);
        B.due("judged(1) stays", x.judged(1), 2);
        for (int what : new int[] {-1, 2, 3, 32, MIN, MAX}) {
            B.due("judged(" + what + ")", x.judged(what), -1);
        }
        x.judge(0, 1);
        B.due("judged(1) of the latest", x.judged(1), 9);
    }

    // Promises 30 and 31

    private static void spare() {
        spareTheFewest();
        spareTheFirst();
        spareOf60();
        spareNone();
        spareRefused();
        spareAtNone();
        spareAtOfTheLatest();
    }

    private static void spareTheFewest() {
        B.sentence(30, "SPARED: the fewest ACTS of it that, in their order and all others left out, are LET and lead to the END");
        FewBowls x = Bench.with(PAIR);
        Bench.plan(x, "make b;make a;wash a;make a;make b;wash a;");
        dueSpare(x, 0, 2, 1, 4);
        dueSpare(x, 4, 2, 1, 4, 5);
        Bench.plan(x, "make b;make a;");
        B.due("not in another order", x.spare(0, 2), -1);
        // The first is LET, but spared.
        FewBowls beside = Bench.with("raw a;raw b;make c of b;wish c;");
        Bench.plan(beside, "make a;make b;make c;");
        dueSpare(beside, 0, 14, 1, 2);
        FewBowls y = Bench.with(CHAIN);
        Bench.plan(y, "make a;make b;wash a;make c;wash c;wash b;make a;make b in a;make c;");
        dueSpare(y, 0, 2, 0, 1, 2, 3);
        dueSpare(y, 0, 3, 0, 1, 3);
        // Not the first END, which takes four, but a later one with three.
        dueSpare(y, 1, 2, 0, 7, 8);
    }

    private static void spareTheFirst() {
        B.sentence(30, "of like ones the first (the places of those kept, the lesser first)");
        FewBowls x = Bench.with(PAIR);
        Bench.plan(x, "make a;make a;make b;make b;make b in a;");
        dueSpare(x, 0, 2, 0, 2);
        dueSpare(x, 1, 1, 0, 4);
        dueSpare(x, 5, 2, 0, 4);
        FewBowls two = Bench.with("raw a;raw b;wish a b;");
        Bench.plan(two, "wash a;make b;make a;make b;make a;");
        dueSpare(two, 0, 2, 1, 2);
        // The lesser first place goes ahead, though the others come later then.
        Bench.plan(two, "make a;wash a;make b;make a;");
        dueSpare(two, 0, 2, 0, 2);
    }

    private static void spareOf60() {
        B.sentence(30, "how many ACTS are kept, of 60");
        FewBowls x = Bench.with(PAIR);
        Bench.plan(x, "wash b;".repeat(58) + "make a;make b;");
        dueSpare(x, 0, 2, 58, 59);
        Bench.plan(x, "make b;".repeat(30) + "wash a;make a;".repeat(14) + "make a;make b;");
        dueSpare(x, 0, 2, 31, 59);
        FewBowls all = Bench.with(ALL);
        StringBuilder plan = new StringBuilder();
        for (char c = 'a'; c <= 'n'; c++) {
            plan.append("wash a;wash b;wash c;make ").append(c).append(';');
        }
        B.due("plan() of 56", Bench.plan(all, plan.toString()), 56);
        dueSpare(all, 7, 14, 3, 7, 11, 15, 19, 23, 27, 31, 35, 39, 43, 47, 51, 55);
    }

    private static void spareNone() {
        B.sentence(30, "NONE: none lead to the END");
        FewBowls x = Bench.with(PAIR);
        B.due("of an empty PLAN", x.spare(0, 14), -1);
        Bench.plan(x, "make a;make b;");
        B.due("with too few BOWLS", x.spare(0, 1), -1);
        B.due("by WAYS 4", x.spare(4, 2), -1);
        Bench.plan(x, "make a;make b in a;");
        B.due("without WAYS 1", x.spare(0, 2), -1);
        B.due("with WAYS 1", x.spare(1, 1), 2);
        Bench.net(x, "raw a;raw b;raw c;wish c;");
        B.due("of THINGS of another NET", x.spare(1, 14), -1);
    }

    private static void spareRefused() {
        B.sentence(30, "-2: not as told, or no THINGS");
        FewBowls x = Bench.with(PAIR);
        Bench.plan(x, "make a;make b;");
        for (int ways : WRONG_WAYS) {
            B.due("spare(" + ways + ", 2)", x.spare(ways, 2), -2);
        }
        for (int bowls : WRONG_BOWLS) {
            B.due("spare(0, " + bowls + ")", x.spare(0, bowls), -2);
        }
        B.due("spare(0, 1) without THINGS", new FewBowls().spare(0, 1), -2);
    }

    private static void spareAtNone() {
        B.sentence(31, "NONE: there is none such, or ahead of any");
        FewBowls x = Bench.with(PAIR);
        x.spare(0, 14);
        for (int i : new int[] {-1, 0, 1, MIN, MAX}) {
            B.due("spareAt(" + i + ") ahead of any", x.spareAt(i), -1);
        }
        Bench.plan(x, "make a;make b;");
        x.spare(0, 2);
        for (int i : new int[] {-1, 2, 3, 59, 60, 64, MIN, MAX}) {
            B.due("spareAt(" + i + ")", x.spareAt(i), -1);
        }
        B.due("spareAt(1)", x.spareAt(1), 1);
    }

    private static void spareAtOfTheLatest() {
        B.sentence(31, "by the latest spare() that told a number");
        FewBowls x = Bench.with(PAIR);
        Bench.plan(x, "wash b;make a;make b;wash a;");
        x.spare(4, 2);
        x.spare(4, 1);
        x.spare(8, 2);
        x.spare(4, 0);
        B.due("spareAt(2) behind NONE and -2", x.spareAt(2), 3);
        x.spare(0, 2);
        B.due("spareAt(2) of a shorter one", x.spareAt(2), -1);
        Bench.plan(x, "");
        Bench.net(x, "raw a;wish a;");
        x.judge(0, 1);
        x.acts(0, 1);
        B.due("spareAt(1) with another PLAN and NET", x.spareAt(1), 2);
    }
}
