import java.math.BigInteger;

/** Each promise by its number: ordinary inputs, the document's edges, wrong inputs; worked out by hand. */
public final class PromiseTest {
    private static final Bench B = new Bench("PromiseTest");

    private static final String PAIR = "raw a;make b of a;wish b;";
    private static final String CHAIN = "raw a;make b of a;make c of b;wish c;";
    /** With 4 BOWLS a must be made twice. */
    private static final String TWICE =
        "raw a costs 5;make b of a;raw p;raw q;make r of b p q;make s of r a;wish s;";
    private static final String TREE =
        "raw a;raw b;make c of a b;raw p;raw q;make r of p q;make s of c r;wish s;";
    private static final String NINE =
        "raw a;raw b;raw c;raw d;raw e;raw f;raw g;raw h;raw i;wish a;";

    public static void main(String[] args) {
        newObject();
        feedAndEnd();
        net();
        netTooLong();
        faultsOfNet();
        thing();
        branchAndTree();
        fewestAndAlone();
        acts();
        manyRows();
        timesAndCost();
        reachedAndCanBe();
        once();
        order();
        carry();
        cooks();
        promised();
        ready();
        plan();
        judge();
        spare();
        count();
        keptAcrossNets();
        B.close();
    }

    // Promise 1
    private static void newObject() {
        FewBowls x = new FewBowls();
        B.due("NONE", FewBowls.NONE, -1);
        for (int what = 0; what < 3; what++) {
            B.due("new count(" + what + ")", x.count(what), 0);
        }
        B.due("new fault()", x.fault(), 0);
        B.due("new end(1)", x.end(1), false);
        B.due("new end(0)", x.end(0), true);
        B.due("new actAt(0)", x.actAt(0), -1);
        B.due("new rows()", x.rows(), 0);
        B.due("new onceMany()", x.onceMany(), 0);
        B.due("new onceAt(0)", x.onceAt(0), -1);
        B.due("new spareAt(0)", x.spareAt(0), -1);
        B.due("new planAt(0)", x.planAt(0), -1);
        B.due("new judged(0)", x.judged(0), -1);
        B.due("new judged(1)", x.judged(1), -1);
        noThings(x);
        B.due("plan() of an empty tape without a NET", x.plan(), 0);
        B.due("plan() of a NAME without a NET", Bench.plan(x, "make a;"), -6);
        B.due("its fault()", x.fault(), 3);
    }

    private static void noThings(FewBowls x) {
        B.due("no THINGS: fewest", x.fewest(0), -1);
        B.due("no THINGS: acts", x.acts(0, 1), -2);
        B.due("no THINGS: times", x.times(0, 0, 1), -2);
        B.due("no THINGS: alone", x.alone(0, 0), -1);
        B.due("no THINGS: cost", x.cost(0, 1), -2);
        B.due("no THINGS: reached", x.reached(0, 1), -1);
        B.due("no THINGS: canBe", x.canBe(0, 1, 0), -1);
        B.due("no THINGS: once", x.once(0), -1);
        B.due("no THINGS: order", Bench.order(x, 0), -1);
        B.due("no THINGS: carry", x.carry(1), -2);
        B.due("no THINGS: cooks", x.cooks(1, 1), -2);
        B.due("no THINGS: promised", x.promised(), -1);
        B.due("no THINGS: ready", x.ready(0), -1);
        B.due("no THINGS: judge", x.judge(0, 1), -1000);
        B.due("no THINGS: judged", x.judged(0), -1);
        B.due("no THINGS: spare", x.spare(0, 1), -2);
        B.due("no THINGS: branch", x.branch(0, false), -1);
        B.thingThrows(x, 0, 0);
        B.treeThrows(x, 0, 0);
    }

    // Promises 2, 3
    private static void feedAndEnd() {
        FewBowls x = new FewBowls();
        for (int fed = 20; fed <= 540; fed += 20) {
            B.due("feed to " + fed, x.feed(-1, 0, 1, 2, 3), fed);
        }
        B.due("feed past 540", x.feed(0, 0, 0, 0, 0), -1);
        B.due("the tape is as it was", x.count(2), 540);
        B.due("end(541)", x.end(541), false);
        B.due("end(-1)", x.end(-1), false);
        B.due("end(MIN)", x.end(Integer.MIN_VALUE), false);
        B.due("count(2) behind those", x.count(2), 540);
        B.due("end(540)", x.end(540), true);
        B.due("end(521)", x.end(521), true);
        B.due("feed from 521", x.feed(0, 0, 0, 0, 0), -1);
        B.due("end(520)", x.end(520), true);
        B.due("feed from 520", x.feed(0, 0, 0, 0, 0), 540);
        B.due("end(0)", x.end(0), true);
        B.due("count(2) of none", x.count(2), 0);
        // The highest byte first: r a w space, a ; w i, s h space a, ; and the rest cut off.
        x.feed(0x72617720, 0x613B7769, 0x73682061, 0x3B414141, 0x41414141);
        x.end(13);
        B.due("net() of raw a;wish a;", x.net(), 1);
        // Behind what is there.
        x.feed(0x72617720, 0x613B2020, 0x20202020, 0x20202020, 0x20202020);
        x.feed(0x77697368, 0x20613B20, 0x20202020, 0x20202020, 0x2020200A);
        B.due("net() of two feeds", x.net(), 1);
    }

    // Promise 4
    private static void net() {
        FewBowls x = new FewBowls();
        B.due("net()", Bench.net(x, CHAIN), 3);
        B.due("fault()", x.fault(), 0);
        B.due("the tape is empty", x.count(2), 0);
        B.due("net() with a FAULT", Bench.net(x, "raw a;wish b;"), -12);
        B.due("the tape is empty with a FAULT too", x.count(2), 0);
        B.due("the NET stays", x.count(0), 3);
        B.due("thing of the NET that stays", x.thing(2, 4), 2);
        B.due("fewest of the NET that stays", x.fewest(0), 2);
        B.due("net() without blanks but where words meet", Bench.net(x, "raw a costs 0;wish a;raw b;wish b;"), 2);
        B.due("net() with blanks", Bench.net(x, "\n raw\na\n;\n\nwish   a \n ;  \n"), 1);
        B.due("net() of 14", Bench.net(x, fourteen() + "wish a n;"), 14);
        B.due("names of six", Bench.net(x, "raw abcdef;make inn of abcdef;wish inn abcdef;"), 2);
        B.due("things behind a wish", Bench.net(x, "raw a;wish a;make b of a;"), 2);
    }

    private static String fourteen() {
        StringBuilder told = new StringBuilder();
        for (char c = 'a'; c <= 'n'; c++) {
            told.append("raw ").append(c).append(';');
        }
        return told.toString();
    }

    private static String padded(String text, int length) {
        return " ".repeat(length - text.length()) + text;
    }

    private static void fault(String text, int place, int kind) {
        FewBowls x = new FewBowls();
        B.due("net() of " + text, Bench.net(x, text), -1 - place);
        B.due("fault() of " + text, x.fault(), kind);
    }

    // Promise 4: texts of more than 500 bytes
    private static void netTooLong() {
        FewBowls x = new FewBowls();
        B.due("net() of 500 bytes", Bench.net(x, padded("raw a;wish a;", 500)), 1);
        fault(padded("raw a;wish a;", 501), 500, 1);
        fault(padded("raw a;wish a;", 540), 500, 1);
        fault("raw a;wish a;" + " ".repeat(488), 500, 1);
        fault("raw a;wish a;" + " ".repeat(486) + "?!", 499, 1);
        fault("raw a;wish a;" + " ".repeat(487) + "?", 500, 1);
        // A WORD that begins at 499 is read whole: too long, so no TOKEN.
        fault(padded("raw a;wish a;wishing", 506), 499, 1);
        // Read whole, it is a NAME not told; cut at 500 it would be one that is.
        fault(padded("raw a;wish ab", 501), 499, 3);
        fault(padded("raw a;wish a;wish", 503), 500, 1);
        fault("raw a;;" + " ".repeat(533), 6, 1);
        fault(" ".repeat(540), 500, 1);
        fault(" ".repeat(500), 500, 1);
    }

    // Promise 5
    private static void faultsOfNet() {
        fault("", 0, 1);
        fault("   ", 3, 1);
        fault("raw a;", 6, 1);
        fault("raw", 3, 1);
        fault("raw ;", 4, 1);
        fault("raw a", 5, 1);
        fault("raw a b;", 6, 1);
        fault("raw 7;", 4, 1);
        fault("raw wash;", 4, 1);
        fault("raw in;", 4, 1);
        fault("raw abcdefg;", 4, 1);
        fault("raw a1;", 4, 1);
        fault("raw a\t;", 5, 1);
        fault("raw a\0;", 5, 1);
        fault("raw \u00e4;", 4, 1);
        fault("raw a.wish a;", 5, 1);
        fault("raw a costs;", 11, 1);
        fault("raw a costs b;", 12, 1);
        fault("raw a costs 1 2;", 14, 1);
        fault("raw a costs 007;", 12, 1);
        fault("raw a costs 7x;", 12, 1);
        fault("raw a of b;", 6, 1);
        fault("make", 4, 1);
        fault("make b a;", 7, 1);
        fault("make b of;", 9, 1);
        fault("make b of costs 1;", 10, 1);
        fault("raw a;make b of a 1;", 18, 1);
        fault("raw a;make b of a of a;", 18, 1);
        fault("wish;", 4, 1);
        fault("raw a;wish a costs 1;", 13, 1);
        fault("raw a;wish a", 12, 1);
        fault("wash a;", 0, 1);
        fault("a;", 0, 1);
        fault("raw a;raw a;", 10, 3);
        fault("raw a;make a of a;", 11, 3);
        fault("make a of a;", 10, 3);
        fault("raw a;make b of a a;", 18, 3);
        fault("raw a;wish a;wish a;", 18, 3);
        fault("wish a;raw a;", 5, 3);
        fault(fourteen() + "raw o;", 84, 4);
        fault(fourteen() + " make a of z;", 85, 4);
        fault(fourteen() + "raw", 84, 4);
        fault(fourteen() + "rawx", 84, 1);
        fault(fourteen() + "wish a b;wish z;", 98, 3);
        String seven = "raw a;raw b;raw c;raw d;raw e;raw f;raw g;make h of a b c d e f ";
        fault(seven + "g;", 64, 4);
        fault(seven + "a;", 64, 3);
        fault(seven + "h;", 64, 3);
        fault(seven + "wish;", 64, 1);
        fault(seven + "costs 1;", 72, 1);
        FewBowls x = new FewBowls();
        Bench.net(x, "raw");
        Bench.net(x, PAIR);
        B.due("fault() behind one without", x.fault(), 0);
        Bench.plan(x, "make z;");
        B.due("fault() of plan()", x.fault(), 3);
        Bench.net(x, PAIR);
        B.due("fault() behind net() again", x.fault(), 0);
        Bench.net(x, "raw");
        Bench.plan(x, "");
        B.due("fault() behind plan()", x.fault(), 0);
    }

    // Promise 6
    private static void thing() {
        FewBowls x = Bench.with("raw a costs 0;raw b costs 99;make c of b a costs 07;make d of c;raw u;wish c;");
        B.due("costs 0", x.thing(0, 0), 0);
        B.due("costs 99", x.thing(1, 0), 99);
        B.due("costs 07", x.thing(2, 0), 7);
        B.due("costs 1 without", x.thing(3, 0), 1);
        B.due("RAW", x.thing(0, 1), 1);
        B.due("not RAW", x.thing(2, 1), 0);
        B.due("WISHED", x.thing(2, 2), 1);
        B.due("not WISHED", x.thing(3, 2), 0);
        B.due("NEEDED", x.thing(0, 3), 1);
        B.due("NEEDED, being WISHED", x.thing(2, 3), 1);
        B.due("not NEEDED, being above", x.thing(3, 3), 0);
        B.due("not NEEDED, being beside", x.thing(4, 3), 0);
        B.due("made of", x.thing(2, 4), 3);
        B.due("RAW made of", x.thing(4, 4), 0);
        B.due("BELOW of RAW", x.thing(1, 5), 2);
        B.due("BELOW", x.thing(3, 5), 15);
        B.thingThrows(x, 5, 0);
        B.thingThrows(x, -1, 0);
        B.thingThrows(x, 14, 0);
        B.thingThrows(x, Integer.MAX_VALUE, 0);
        B.thingThrows(x, 0, 6);
        B.thingThrows(x, 0, -1);
        B.due("nothing is changed", x.count(0), 5);
    }

    // Promises 7, 8
    private static void branchAndTree() {
        FewBowls x = Bench.with("raw a;raw b;raw c;make d of a b c;make e of a d;make f of d e;wish f;");
        int[] apart = {1, 1, 1, 4, 4, 5};
        int[] inPlace = {1, 1, 1, 3, 3, 4};
        int[] copies = {1, 1, 1, 4, 6, 11};
        int[] depth = {0, 0, 0, 1, 2, 3};
        for (int k = 0; k < 6; k++) {
            B.due("branch(" + k + ", false)", x.branch(k, false), apart[k]);
            B.due("branch(" + k + ", true)", x.branch(k, true), inPlace[k]);
            B.due("tree(" + k + ", 0)", x.tree(k, 0), copies[k]);
            B.due("tree(" + k + ", 1)", x.tree(k, 1), depth[k]);
        }
        B.due("branch(6)", x.branch(6, false), -1);
        B.due("branch(-1)", x.branch(-1, true), -1);
        B.due("branch(MIN)", x.branch(Integer.MIN_VALUE, true), -1);
        B.treeThrows(x, 6, 0);
        B.treeThrows(x, -1, 1);
        B.treeThrows(x, 0, 2);
        B.treeThrows(x, 0, -1);
        FewBowls six = Bench.with("raw a;raw b;raw c;raw d;raw e;raw f;make g of a b c d e f;wish g;");
        B.due("branch of six", six.branch(6, false), 7);
        B.due("branch of six in place", six.branch(6, true), 6);
        // The parts of g come by rising BRANCH, behind three of f that are all great.
        FewBowls rising = Bench.with("raw a;raw b;make c of a b;make d of a b;make e of a b;"
            + "make f of c d e;make g of a c d;wish f g;");
        B.due("branch of three great", rising.branch(5, false), 5);
        B.due("branch of three great in place", rising.branch(5, true), 4);
        B.due("branch of a small and two great", rising.branch(6, false), 4);
        B.due("branch of a small and two great in place", rising.branch(6, true), 3);
        FewBowls deep = Bench.with("raw a;make b of a;make c of a b;make d of a b c;make e of a b c d;"
            + "make f of a b c d e;make g of a b c d e f;make h of b c d e f g;wish h;");
        B.due("copies double", deep.tree(6, 0), 64);
        B.due("copies of six", deep.tree(7, 0), 1 + 2 + 4 + 8 + 16 + 32 + 64);
        B.due("depth", deep.tree(7, 1), 7);
    }

    // Promises 9, 14
    private static void fewestAndAlone() {
        FewBowls x = Bench.with(CHAIN);
        int[] fewest = {2, 1, 2, 2, 2, 1, 3, 2};
        for (int ways = 0; ways < 8; ways++) {
            B.due("fewest(" + ways + ") of a chain", x.fewest(ways), fewest[ways]);
            B.due("alone(2, " + ways + ")", x.alone(2, ways), fewest[ways]);
            B.due("alone(0, " + ways + ")", x.alone(0, ways), 1);
        }
        B.due("alone(1, 0)", x.alone(1, 0), 2);
        B.due("alone(1, 3)", x.alone(1, 3), 1);
        B.due("alone(1, 6)", x.alone(1, 6), 2);
        B.due("fewest(8)", x.fewest(8), -1);
        B.due("fewest(-1)", x.fewest(-1), -1);
        B.due("fewest(MIN)", x.fewest(Integer.MIN_VALUE), -1);
        B.due("alone(3, 0)", x.alone(3, 0), -1);
        B.due("alone(-1, 0)", x.alone(-1, 0), -1);
        B.due("alone(0, 8)", x.alone(0, 8), -1);
        B.due("alone(0, -1)", x.alone(0, -1), -1);
        FewBowls six = Bench.with("raw a;raw b;raw c;raw d;raw e;raw f;make g of a b c d e f;wish g;");
        B.due("fewest(0) of six", six.fewest(0), 7);
        B.due("fewest(1) of six", six.fewest(1), 6);
        FewBowls all = Bench.with(fourteen() + "wish a b c d e f g h i j k l m n;");
        B.due("fewest(0) of 14 wished", all.fewest(0), 14);
        B.due("fewest(7) of 14 wished", all.fewest(7), 14);
        B.due("alone(13, 4) of 14", all.alone(13, 4), 1);
        FewBowls unneeded = Bench.with("raw a;raw b;make c of a b;wish a;");
        B.due("fewest(0) without what is not NEEDED", unneeded.fewest(0), 1);
    }

    // Promises 10, 11
    private static void acts() {
        FewBowls x = Bench.with(PAIR);
        dueActs(x, 0, 2, 0, 1);
        dueActs(x, 4, 2, 0, 1, 20);
        dueActs(x, 1, 1, 0, 120);
        B.due("rows() of one", x.rows(), 1);
        dueActs(x, 1, 2, 0, 1);
        B.due("rows() of two", x.rows(), 2);
        dueActs(x, 5, 2, 0, 120);
        B.due("acts(0, 1) can't", x.acts(0, 1), -1);
        B.due("actAt(1) stays", x.actAt(1), 120);
        B.due("rows() stays", x.rows(), 1);
        int[][] wrong = {{0, 0}, {0, 15}, {8, 2}, {-1, 2}, {0, -1}, {0, Integer.MAX_VALUE}};
        for (int[] w : wrong) {
            B.due("acts(" + w[0] + ", " + w[1] + ")", x.acts(w[0], w[1]), -2);
        }
        B.due("actAt(1) stays behind -2", x.actAt(1), 120);
        B.due("actAt(-1)", x.actAt(-1), -1);
        B.due("actAt(MAX)", x.actAt(Integer.MAX_VALUE), -1);
        dueActs(Bench.with(CHAIN), 0, 2, 0, 1, 20, 2);
        // Washing b needs a again, for b was made of it.
        dueActs(Bench.with(CHAIN), 6, 3, 0, 1, 2, 21, 20);
        dueActs(Bench.with(CHAIN), 7, 2, 0, 1, 141, 20);
        dueActs(Bench.with(TWICE), 0, 4, 0, 1, 2, 3, 20, 4, 21, 0, 22, 5);
        FewBowls two = Bench.with("raw a;raw b;wish b a;");
        dueActs(two, 0, 14, 0, 1);
        B.due("rows() of either first", two.rows(), 2);
    }

    private static void dueActs(FewBowls x, int ways, int b, int... row) {
        B.due("acts(" + ways + ", " + b + ")", x.acts(ways, b), row.length);
        for (int i = 0; i < row.length; i++) {
            B.due("actAt(" + i + ") of acts(" + ways + ", " + b + ")", x.actAt(i), row[i]);
        }
        B.due("actAt past acts(" + ways + ", " + b + ")", x.actAt(row.length), -1);
    }

    // Promise 12
    private static void manyRows() {
        FewBowls all = Bench.with(fourteen() + "wish a b c d e f g h i j k l m n;");
        B.due("acts of 14", all.acts(0, 14), 14);
        B.due("rows() of 14", all.rows(), factorial(14).longValueExact());
        // Four times: two made, one of them, both washed (2 * 2 ways, 5 ACTS); and what is wished beside.
        String four = "raw a;raw b;make c of a b;raw d;raw e;make f of d e;raw g;raw h;make i of g h;"
            + "raw j;raw k;make l of j k;wish c f i l;";
        long below = rowsOfFour(1).longValueExact();
        FewBowls x = Bench.with(four + "raw m;wish m;");
        B.due("acts below 10^15", x.acts(4, 14), 21);
        B.due("rows() below 10^15", x.rows(), below);
        B.due("more than 10^15", rowsOfFour(2).compareTo(BigInteger.TEN.pow(15)) > 0, true);
        B.due("two wished beside", Bench.net(x, four + "raw m;raw n;wish m n;"), 14);
        B.due("rows() by the latest acts()", x.rows(), below);
        B.due("acts above 10^15", x.acts(4, 14), 22);
        B.due("rows() above 10^15", x.rows(), 1_000_000_000_000_000L);
    }

    private static BigInteger rowsOfFour(int beside) {
        return factorial(20 + beside).divide(factorial(5).pow(4)).multiply(BigInteger.valueOf(256));
    }

    private static BigInteger factorial(int n) {
        return n < 2 ? BigInteger.ONE : factorial(n - 1).multiply(BigInteger.valueOf(n));
    }

    // Promises 13, 15
    private static void timesAndCost() {
        FewBowls x = Bench.with(TWICE);
        B.due("fewest(0)", x.fewest(0), 4);
        B.due("times(0, 0, 4)", x.times(0, 0, 4), 2);
        B.due("times(0, 0, 5)", x.times(0, 0, 5), 1);
        B.due("times(1, 0, 4)", x.times(1, 0, 4), 1);
        B.due("cost(0, 4)", x.cost(0, 4), 15);
        B.due("cost(0, 5)", x.cost(0, 5), 10);
        B.due("cost(0, 14)", x.cost(0, 14), 10);
        B.due("cost(0, 3)", x.cost(0, 3), -1);
        B.due("times(0, 0, 3)", x.times(0, 0, 3), -1);
        B.due("times(6, 0, 4)", x.times(6, 0, 4), -2);
        B.due("times(-1, 0, 4)", x.times(-1, 0, 4), -2);
        B.due("times(0, 8, 4)", x.times(0, 8, 4), -2);
        B.due("times(0, 0, 0)", x.times(0, 0, 0), -2);
        B.due("times(0, 0, 15)", x.times(0, 0, 15), -2);
        B.due("cost(8, 4)", x.cost(8, 4), -2);
        B.due("cost(-1, 4)", x.cost(-1, 4), -2);
        B.due("cost(0, 0)", x.cost(0, 0), -2);
        B.due("cost(0, 15)", x.cost(0, 15), -2);
        FewBowls free = Bench.with("raw a costs 0;make b of a costs 0;raw c costs 99;wish b;");
        B.due("cost of what costs nothing", free.cost(0, 2), 0);
        B.due("times of what is not NEEDED", free.times(2, 0, 2), 0);
        B.due("times in a bowl", free.times(1, 1, 1), 1);
        FewBowls dear = Bench.with("raw a costs 99;raw b costs 98;make c of a b costs 97;wish a b c;");
        B.due("cost of three", dear.cost(0, 3), 99 + 98 + 97);
    }

    // Promises 16, 17
    private static void reachedAndCanBe() {
        FewBowls x = Bench.with(PAIR);
        B.due("reached(0, 1)", x.reached(0, 1), 2);
        B.due("reached(1, 1)", x.reached(1, 1), 3);
        B.due("reached(0, 2)", x.reached(0, 2), 4);
        B.due("reached(4, 2)", x.reached(4, 2), 4);
        B.due("reached(0, 14)", x.reached(0, 14), 4);
        B.due("reached(8, 1)", x.reached(8, 1), -1);
        B.due("reached(-1, 1)", x.reached(-1, 1), -1);
        B.due("reached(0, 0)", x.reached(0, 0), -1);
        B.due("reached(0, 15)", x.reached(0, 15), -1);
        B.due("canBe(0, 1, 0)", x.canBe(0, 1, 0), 1);
        B.due("canBe(0, 1, 1)", x.canBe(0, 1, 1), 1);
        B.due("canBe(0, 1, 2)", x.canBe(0, 1, 2), 0);
        B.due("canBe(1, 1, 2)", x.canBe(1, 1, 2), 1);
        B.due("canBe(5, 1, 2)", x.canBe(5, 1, 2), 1);
        B.due("canBe(0, 1, 3)", x.canBe(0, 1, 3), 0);
        B.due("canBe(0, 2, 3)", x.canBe(0, 2, 3), 1);
        B.due("canBe(0, 2, 4)", x.canBe(0, 2, 4), -1);
        B.due("canBe(0, 2, -1)", x.canBe(0, 2, -1), -1);
        B.due("canBe(0, 0, 0)", x.canBe(0, 0, 0), -1);
        B.due("canBe(0, 15, 0)", x.canBe(0, 15, 0), -1);
        B.due("canBe(8, 1, 0)", x.canBe(8, 1, 0), -1);
        // By WAYS 2 b can be alone behind a's washing, c only with b or a beside it.
        FewBowls chain = Bench.with(CHAIN);
        B.due("canBe(2, 3, 2)", chain.canBe(2, 3, 2), 1);
        B.due("canBe(2, 2, 4)", chain.canBe(2, 2, 4), 0);
        B.due("canBe(2, 3, 4)", chain.canBe(2, 3, 4), 1);
        B.due("canBe(0, 2, 4)", chain.canBe(0, 2, 4), 1);
        FewBowls all = Bench.with(fourteen() + "wish a;");
        B.due("reached of 14", all.reached(0, 14), 16384);
        B.due("reached of 14 with 1", all.reached(0, 1), 15);
        B.due("reached of 14 with 2", all.reached(7, 2), 15 + 91);
        B.due("canBe all of 14", all.canBe(0, 14, 16383), 1);
        B.due("canBe all of 14 with 13", all.canBe(0, 13, 16383), 0);
        B.due("canBe past 14", all.canBe(0, 14, 16384), -1);
    }

    // Promises 18, 19, 20
    private static void once() {
        FewBowls x = Bench.with(TREE);
        dueOnce(x, 0, 4, 0, 1, 2, 3, 4, 5, 6);
        // Either side first, its two in either order, and likewise the other's, the first of which may
        // come at any of four places ahead.
        B.due("onceMany() of a tree", x.onceMany(), 2 * 2 * 2 * 4);
        dueOnce(x, 1, 3, 0, 1, 2, 3, 4, 5, 6);
        B.due("onceMany() in place", x.onceMany(), 32);
        B.due("once(2)", x.once(2), -1);
        B.due("once(-1)", x.once(-1), -1);
        B.due("onceAt(6) stays", x.onceAt(6), 6);
        B.due("onceMany() stays", x.onceMany(), 32);
        B.due("onceAt(-1)", x.onceAt(-1), -1);
        // What is not NEEDED is left out; the WISHED are never washed.
        FewBowls some = Bench.with("raw u;raw a;make b of a;make v of u;make c of b;wish a c;");
        dueOnce(some, 0, 3, 1, 2, 4);
        dueOnce(some, 1, 2, 1, 2, 4);
        // The first by numbers would need one BOWL more.
        FewBowls late = Bench.with("raw a;raw b;raw c;make d of b c;make e of a d;wish e;");
        dueOnce(late, 0, 3, 1, 2, 3, 0, 4);
        B.due("onceMany() of late", late.onceMany(), 2);
        FewBowls all = Bench.with(fourteen() + "wish a b c d e f g h i j k l m n;");
        B.due("once(0) of 14", all.once(0), 14);
        B.due("onceMany() of 14", all.onceMany(), factorial(14).longValueExact());
    }

    private static void dueOnce(FewBowls x, int ways, int bowls, int... order) {
        B.due("once(" + ways + ")", x.once(ways), bowls);
        for (int i = 0; i < order.length; i++) {
            B.due("onceAt(" + i + ") of once(" + ways + ")", x.onceAt(i), order[i]);
        }
        B.due("onceAt past once(" + ways + ")", x.onceAt(order.length), -1);
    }

    // Promise 21
    private static void order() {
        FewBowls x = Bench.with(TREE);
        B.due("order(0)", Bench.order(x, 0, 0, 1, 3, 4, 2, 5, 6), 5);
        B.due("order(1)", Bench.order(x, 1, 0, 1, 3, 4, 2, 5, 6), 4);
        B.due("order(0) the best", Bench.order(x, 0, 3, 4, 5, 0, 1, 2, 6), 4);
        B.due("order too early", Bench.order(x, 0, 0, 2, 1, 3, 4, 5, 6), -1);
        B.due("order too short", Bench.order(x, 0, 0, 1, 2, 3, 4, 5), -1);
        B.due("order too long", Bench.order(x, 0, 0, 1, 2, 3, 4, 5, 6, 0), -1);
        B.due("order with one twice", Bench.order(x, 0, 0, 1, 2, 3, 4, 5, 5), -1);
        B.due("order with 7", Bench.order(x, 0, 0, 1, 2, 3, 4, 5, 7), -1);
        B.due("order with 255", Bench.order(x, 0, 0, 1, 2, 3, 4, 5, 255), -1);
        B.due("order of nothing", Bench.order(x, 0), -1);
        B.due("order(2)", Bench.order(x, 2, 0, 1, 2, 3, 4, 5, 6), -1);
        B.due("order(-1)", Bench.order(x, -1, 0, 1, 2, 3, 4, 5, 6), -1);
        B.due("the tape is empty", x.count(2), 0);
        Bench.tape(x, new byte[540]);
        B.due("order of 540", x.order(1), -1);
        B.due("the tape is empty behind a long one", x.count(2), 0);
        FewBowls some = Bench.with("raw u;raw a;make b of a;wish b;");
        B.due("order of what is NEEDED", Bench.order(some, 0, 1, 2), 2);
        B.due("order with what is not NEEDED", Bench.order(some, 0, 0, 1, 2), -1);
        B.due("order with it instead", Bench.order(some, 0, 0, 1), -1);
    }

    // Promise 22
    private static void carry() {
        FewBowls x = Bench.with(TREE);
        B.due("carry(2)", x.carry(2), -1);
        // c waits in the cellar while r is made.
        B.due("carry(3)", x.carry(3), 7);
        B.due("carry(4)", x.carry(4), 5);
        B.due("carry(8)", x.carry(8), 5);
        B.due("carry(9)", x.carry(9), -2);
        B.due("carry(0)", x.carry(0), -2);
        B.due("carry(-1)", x.carry(-1), -2);
        B.due("carry of RAW", Bench.with("raw a;raw b;wish a b;").carry(1), 0);
        B.due("carry of a pair", Bench.with(PAIR).carry(2), 2);
        B.due("carry of a pair with 1", Bench.with(PAIR).carry(1), -1);
        B.due("carry of two wished", Bench.with("raw a;make b of a;make c of b;wish b c;").carry(2), 3);
        B.due("carry of 9 THINGS", Bench.with(NINE).carry(1), -2);
        B.due("carry of 8 THINGS", Bench.with(
            "raw a;make b of a;make c of b;make d of c;make e of d;make f of e;make g of f;make h of g;wish h;")
            .carry(2), 2);
    }

    // Promise 23
    private static void cooks() {
        FewBowls x = Bench.with(TREE);
        B.due("cooks(1, 4)", x.cooks(1, 4), 7);
        B.due("cooks(2, 8)", x.cooks(2, 8), 4);
        B.due("cooks(4, 4)", x.cooks(4, 4), 5);
        B.due("cooks(4, 5)", x.cooks(4, 5), 4);
        B.due("cooks(4, 6)", x.cooks(4, 6), 3);
        B.due("cooks(4, 8)", x.cooks(4, 8), 3);
        B.due("cooks(1, 3)", x.cooks(1, 3), -1);
        B.due("cooks(0, 4)", x.cooks(0, 4), -2);
        B.due("cooks(5, 4)", x.cooks(5, 4), -2);
        B.due("cooks(1, 0)", x.cooks(1, 0), -2);
        B.due("cooks(1, 9)", x.cooks(1, 9), -2);
        B.due("cooks of 9 THINGS", Bench.with(NINE).cooks(1, 1), -2);
        B.due("cooks of RAW", Bench.with("raw a;raw b;wish a b;").cooks(1, 2), 2);
        B.due("cooks of RAW at once", Bench.with("raw a;raw b;wish a b;").cooks(2, 2), 1);
    }

    // Promise 24
    private static void promised() {
        B.due("promised() of a tree", Bench.with(TREE).promised(), 4);
        B.due("promised() of a pair", Bench.with(PAIR).promised(), 2);
        // c and d are made, f of them and of e promised, and e is made good when c and d are washed.
        FewBowls x = Bench.with("raw a;raw b;make c of a b;make d of a b;make e of a b;make f of c d e;wish f;");
        B.due("fewest(0) without promises", x.fewest(0), 5);
        B.due("promised()", x.promised(), 4);
        B.due("promised() of RAW", Bench.with("raw a;wish a;").promised(), 1);
        B.due("promised() of 8 THINGS", Bench.with("raw a;raw b;raw c;raw d;raw e;raw f;raw g;raw h;"
            + "wish a b c d e f g h;").promised(), 8);
        B.due("promised() of 9 THINGS", Bench.with(NINE).promised(), -1);
    }

    // Promise 25
    private static void ready() {
        FewBowls x = Bench.with("raw a;raw b;raw c;make d of a b c;make e of d;wish d e;");
        B.due("ready(0)", x.ready(0), 3);
        B.due("ready(8)", x.ready(8), -1);
        B.due("ready(-1)", x.ready(-1), -1);
        B.due("fewest(0) behind ready(0)", x.fewest(0), 4);
        B.due("reached(0, 1) behind ready(0)", x.reached(0, 1), 4);
        B.due("ready of RAW", Bench.with("raw a;wish a;").ready(0), -1);
        B.due("ready with none less", Bench.with("raw a;make b of a;wish a b;").ready(0), -1);
        // By WAYS 3 b and c, being RAW, are alike: c is MADE IN the bowl of b.
        B.due("ready(0) of a chain", Bench.with(CHAIN).ready(0), 2);
        B.due("ready(1) of a chain", Bench.with(CHAIN).ready(1), -1);
        B.due("ready(3) of a chain", Bench.with(CHAIN).ready(3), 1);
        B.due("ready(6) of a chain", Bench.with(CHAIN).ready(6), 2);
        FewBowls two = Bench.with("raw a;raw b;make c of a b;make d of a b;wish c d;");
        B.due("ready of like ones", two.ready(0), 2);
    }

    // Promises 26, 27
    private static void plan() {
        FewBowls x = Bench.with(CHAIN);
        B.due("plan()", Bench.plan(x, "make a;make b in a;wash b;\nmake c in c;"), 4);
        int[] acts = {0, 120, 21, 142};
        for (int i = 0; i < acts.length; i++) {
            B.due("planAt(" + i + ")", x.planAt(i), acts[i]);
        }
        B.due("planAt(4)", x.planAt(4), -1);
        B.due("planAt(-1)", x.planAt(-1), -1);
        Object[][] faults = {
            {"make", 4, 1}, {"make ;", 5, 1}, {"make a", 6, 1}, {"make a b;", 7, 1}, {"make 1;", 5, 1},
            {"make raw;", 5, 1}, {"make z;", 5, 3}, {"make a in z;", 10, 3}, {"make a in;", 9, 1},
            {"make a in in;", 10, 1}, {"wash a in b;", 7, 1}, {"raw a;", 0, 1}, {";", 0, 1}, {"wash z", 5, 3},
            {"make a;make a;make A;", 19, 1}, {" \n?", 2, 1}, {"make abcdefg;", 5, 1}
        };
        for (Object[] f : faults) {
            B.due("plan() of " + f[0], Bench.plan(x, (String) f[0]), -1 - (int) f[1]);
            B.due("fault() of " + f[0], x.fault(), (int) f[2]);
            B.due("the PLAN stays", x.count(1), 4);
            B.due("the tape is empty", x.count(2), 0);
        }
        B.due("planAt(1) stays", x.planAt(1), 120);
        String sixty = "wash c;".repeat(60);
        B.due("plan() of 60", Bench.plan(x, sixty), 60);
        B.due("planAt(59)", x.planAt(59), 22);
        B.due("plan() of 61", Bench.plan(x, sixty + " make"), -1 - 421);
        B.due("fault() of 61", x.fault(), 4);
        B.due("plan() of 60 and what can't come", Bench.plan(x, sixty + "raw"), -1 - 420);
        B.due("fault() of that", x.fault(), 1);
        B.due("plan() of 500 bytes", Bench.plan(x, padded("make a;", 500)), 1);
        B.due("plan() of 501 bytes", Bench.plan(x, padded("make a;", 501)), -501);
        B.due("fault() of 501 bytes", x.fault(), 1);
        B.due("plan() of no bytes", Bench.plan(x, ""), 0);
        B.due("planAt(0) of none", x.planAt(0), -1);
    }

    // Promises 28, 29
    private static void judge() {
        FewBowls x = Bench.with("raw a costs 5;make b of a costs 7;make c of b costs 9;wish c;");
        Bench.plan(x, "make a;make b in a;make c in b;");
        B.due("judge(1, 1)", x.judge(1, 1), 1003);
        B.due("judged(0)", x.judged(0), 1);
        B.due("judged(1)", x.judged(1), 21);
        B.due("judge(5, 1)", x.judge(5, 1), 1003);
        B.due("judge(0, 14) without MADE IN", x.judge(0, 14), 1);
        B.due("judged(1) of one", x.judged(1), 5);
        B.due("judge(3, 14) b can't be washed", x.judge(3, 14), 2);
        B.due("judged(0) of two", x.judged(0), 1);
        int[][] wrong = {{8, 1}, {-1, 1}, {0, 0}, {0, 15}};
        for (int[] w : wrong) {
            B.due("judge(" + w[0] + ", " + w[1] + ")", x.judge(w[0], w[1]), -1000);
        }
        B.due("judged(1) stays", x.judged(1), 12);
        B.due("judged(2)", x.judged(2), -1);
        B.due("judged(-1)", x.judged(-1), -1);
        Bench.plan(x, "make a;make b;make c;wash a;wash b;");
        B.due("judge(0, 2) too many BOWLS", x.judge(0, 2), 2);
        B.due("judge(0, 3)", x.judge(0, 3), 1005);
        B.due("judge(4, 3)", x.judge(4, 3), 1005);
        B.due("judge(2, 3) b can't be washed", x.judge(2, 3), 4);
        B.due("judged(0) of three", x.judged(0), 3);
        Bench.plan(x, "make a;wash a;make a;make b;");
        B.due("judge() short of the END", x.judge(0, 2), -5);
        B.due("judged(1) counts each time", x.judged(1), 17);
        Bench.plan(x, "make a;make a;");
        B.due("judge() of what is FULL", x.judge(0, 14), 1);
        Bench.plan(x, "wash a;");
        B.due("judge() of what is not FULL", x.judge(0, 14), 0);
        B.due("judged(0) of nothing done", x.judged(0), 0);
        Bench.plan(x, "make a;make b;make c in a;");
        B.due("judge() in a bowl that it is not made of", x.judge(1, 14), 2);
        Bench.plan(x, "make b;");
        B.due("judge() of what lacks its parts", x.judge(1, 14), 0);
        Bench.plan(x, "");
        B.due("judge() of an empty PLAN", x.judge(0, 1), -1);
    }

    // Promises 30, 31
    private static void spare() {
        FewBowls x = Bench.with(CHAIN);
        Bench.plan(x, "make a;make b;wash a;make c;wash b;");
        dueSpare(x, 0, 2, 0, 1, 2, 3);
        dueSpare(x, 0, 3, 0, 1, 3);
        dueSpare(x, 4, 2, 0, 1, 2, 3, 4);
        B.due("spare(0, 1)", x.spare(0, 1), -1);
        B.due("spare(6, 3)", x.spare(6, 3), -1);
        B.due("spareAt(4) stays", x.spareAt(4), 4);
        int[][] wrong = {{8, 1}, {-1, 1}, {0, 0}, {0, 15}};
        for (int[] w : wrong) {
            B.due("spare(" + w[0] + ", " + w[1] + ")", x.spare(w[0], w[1]), -2);
        }
        B.due("spareAt(4) stays behind -2", x.spareAt(4), 4);
        B.due("spareAt(-1)", x.spareAt(-1), -1);
        // What is not LET is left out, and of like ones the lesser places are kept.
        Bench.plan(x, "make c;make a;make a;make b;make b in a;make b;make c in b;make c;");
        dueSpare(x, 0, 14, 1, 3, 7);
        dueSpare(x, 1, 14, 1, 3, 6);
        dueSpare(x, 1, 1, 1, 4, 6);
        StringBuilder sixty = new StringBuilder("make a;");
        sixty.append("wash a;make a;".repeat(27)).append("wash b;".repeat(3)).append("make b;make c;");
        B.due("plan() of 60", Bench.plan(x, sixty.toString()), 60);
        dueSpare(x, 0, 3, 0, 58, 59);
        Bench.plan(x, "");
        B.due("spare() of an empty PLAN", x.spare(0, 14), -1);
    }

    private static void dueSpare(FewBowls x, int ways, int b, int... places) {
        B.due("spare(" + ways + ", " + b + ")", x.spare(ways, b), places.length);
        for (int i = 0; i < places.length; i++) {
            B.due("spareAt(" + i + ") of spare(" + ways + ", " + b + ")", x.spareAt(i), places[i]);
        }
        B.due("spareAt past spare(" + ways + ", " + b + ")", x.spareAt(places.length), -1);
    }

    // Promise 32
    private static void count() {
        FewBowls x = Bench.with(CHAIN);
        Bench.plan(x, "make a;make b;");
        x.feed(0, 0, 0, 0, 0);
        x.end(7);
        B.due("count(0)", x.count(0), 3);
        B.due("count(1)", x.count(1), 2);
        B.due("count(2)", x.count(2), 7);
        B.due("count(3)", x.count(3), -1);
        B.due("count(-1)", x.count(-1), -1);
    }

    /** What the latest calls told, and the PLAN, stay when another NET comes. */
    private static void keptAcrossNets() {
        FewBowls x = Bench.with(CHAIN);
        Bench.plan(x, "make a;make b;make c;");
        x.acts(0, 2);
        x.once(0);
        x.judge(0, 3);
        x.spare(0, 3);
        x.fewest(0);
        B.due("another NET", Bench.net(x, "raw z;raw y;wish z y;"), 2);
        B.due("actAt(3)", x.actAt(3), 2);
        B.due("rows()", x.rows(), 1);
        B.due("onceAt(2)", x.onceAt(2), 2);
        B.due("onceMany()", x.onceMany(), 1);
        B.due("judged(1)", x.judged(1), 3);
        B.due("spareAt(2)", x.spareAt(2), 2);
        B.due("planAt(2)", x.planAt(2), 2);
        B.due("fewest(0) is of the new one", x.fewest(0), 2);
        B.due("reached(0, 1) is of the new one", x.reached(0, 1), 3);
        B.due("judge() with a THING that is none now", x.judge(0, 14), 2);
        B.due("spare() with a THING that is none now", x.spare(0, 14), 2);
        B.due("plan() takes the names of then", Bench.plan(x, "make a;"), -6);
        B.due("plan() takes the new names", Bench.plan(x, "make y;"), 1);
        B.due("planAt(0)", x.planAt(0), 1);
    }
}
