import java.lang.management.ManagementFactory;
import java.util.NoSuchElementException;
import java.util.Random;

/**
 * Rules 7 and 12: no call throws by itself, whatever its arguments and the state, and 512 of the
 * dearest calls make little.
 */
public final class RoomTest {
    private static final Bench BENCH = new Bench("RoomTest");

    /** The room of one run holds 7.3 million elements; a tenth is more than one object ever needs. */
    private static final long MOST_BYTES = 730_000;

    private static final String[] NETS = {
        "raw a;wish a;",
        "raw a;make b of a;make c of a b;make d of a b c;make e of a b c d;make f of a b c d e;"
            + "make g of a b c d e f;make h of b c d e f g;make i of c d e f g h;make j of d e f g h i;"
            + "make k of e f g h i j;make l of f g h i j k;make m of g h i j k l;make n of h i j k l m;wish n;",
        "raw a;raw b;raw c;raw d;raw e;raw f;raw g;raw h;raw i;raw j;raw k;raw l;raw m;raw n;"
            + "wish a b c d e f g h i j k l m n;",
        "raw a;make b of a;make c of b;make d of c;make e of d;make f of e;make g of f;make h of a g;wish h b;",
        "raw a;raw b;raw c;raw d;raw e;raw f;raw g;raw h;wish a b c d e f g h;",
        "raw a;raw b;make c of a b costs 99;make d of c costs 0;make e of c a;wish d e;",
        "raw a;wish b;", "make;", ""
    };
    private static final String[] PLANS = {
        "make a;make b;make c;make d;make e;make f;make g;make h;", "make a;make b in a;wash b;make a;make b;",
        "wash a;", "make z;", "make", "", "make a;wash a;make a;wash a;make a;make b;make c in b;make d;make e;"
    };

    public static void main(String[] args) {
        BENCH.due("a new object", bytesOfNew() < 40_000, true);
        for (String net : NETS) {
            dearest(net);
        }
        growing();
        Random random = new Random(7);
        int rounds = args.length > 0 ? Integer.parseInt(args[0]) : 40;
        for (int round = 0; round < rounds; round++) {
            anyCalls(random);
        }
        BENCH.close();
    }

    private static long allocated() {
        com.sun.management.ThreadMXBean threads =
            (com.sun.management.ThreadMXBean) ManagementFactory.getThreadMXBean();
        return threads.getThreadAllocatedBytes(Thread.currentThread().getId());
    }

    private static long bytesOfNew() {
        new FewBowls().count(0);
        long before = allocated();
        FewBowls x = new FewBowls();
        return allocated() - before + x.count(0);
    }

    private static void dearest(String net) {
        FewBowls x = new FewBowls();
        Bench.net(x, net);
        Bench.plan(x, PLANS[0]);
        int calls = Bench.MOST_CALLS - Bench.callsFor(net) - Bench.callsFor(PLANS[0]);
        long before = allocated();
        long sum = 0;
        for (int i = 0; i < calls; i++) {
            int ways = i % 8;
            int b = 14 - i / 8 % 14;
            switch (i % 11) {
                case 0 -> sum += x.acts(ways, b);
                case 1 -> sum += x.cost(ways, b);
                case 2 -> sum += x.ready(ways);
                case 3 -> sum += x.reached(ways, b);
                case 4 -> sum += x.once(ways & 1);
                case 5 -> sum += x.spare(ways, b);
                case 6 -> sum += x.carry(1 + b % 8);
                case 7 -> sum += x.cooks(1 + i % 4, 1 + b % 8);
                case 8 -> sum += x.promised();
                case 9 -> sum += x.times(b - 1, ways, b);
                default -> sum += x.fewest(ways);
            }
        }
        long bytes = allocated() - before;
        BENCH.due(calls + " calls on " + net + " make " + bytes + " bytes (" + sum + ")", bytes <= MOST_BYTES, true);
    }

    /** NETS of one THING more each time: rows that were made too short are left behind. */
    private static void growing() {
        FewBowls x = new FewBowls();
        StringBuilder told = new StringBuilder();
        int calls = 0;
        long bytes = 0;
        long sum = 0;
        for (char name = 'a'; name <= 'n'; name++) {
            told.append(name == 'a' ? "raw a;" : "make " + name + " of " + (char) (name - 1) + ";");
            String net = told + "wish " + name + ";";
            Bench.net(x, net);
            calls += Bench.callsFor(net) + 9;
            long before = allocated();
            sum += x.once(0) + x.fewest(0) + x.acts(4, 2 + (name - 'a') / 3) + x.cost(0, 2) + x.spare(0, 2);
            sum += x.carry(2) + x.cooks(1, 2) + x.promised() + x.ready(6);
            bytes += allocated() - before;
        }
        BENCH.due("calls, of which there may be 512", calls <= Bench.MOST_CALLS, true);
        BENCH.due(calls + " calls on growing nets make " + bytes + " bytes (" + sum + ")", bytes <= 2 * MOST_BYTES, true);
    }

    private static void anyCalls(Random random) {
        FewBowls x = new FewBowls();
        int left = Bench.MOST_CALLS;
        while (true) {
            int which = random.nextInt(40);
            String text = which < 31 ? "" : which < 35 ? any(NETS, random) : which < 38 ? any(PLANS, random) : "\0\1\2\3";
            left -= which < 31 ? 1 : 1 + Bench.callsFor(text);
            if (left < 0) {
                return;
            }
            int[] n = new int[5];
            for (int i = 0; i < 5; i++) {
                n[i] = number(random);
            }
            try {
                anyCall(x, which, n, text);
            } catch (NoSuchElementException e) {
                BENCH.due("only thing and tree throw, not " + which, which == 4 || which == 6, true);
            } catch (RuntimeException | Error e) {
                BENCH.due("call " + which + " threw " + e, 1, 0);
            }
        }
    }

    private static String any(String[] texts, Random random) {
        return texts[random.nextInt(texts.length)];
    }

    private static int number(Random random) {
        return switch (random.nextInt(12)) {
            case 0 -> Integer.MIN_VALUE;
            case 1 -> Integer.MAX_VALUE;
            case 2 -> -1 - random.nextInt(3);
            case 3 -> random.nextInt();
            case 4 -> random.nextInt(20000);
            default -> random.nextInt(17);
        };
    }

    private static void anyCall(FewBowls x, int which, int[] n, String text) {
        switch (which) {
            case 0 -> x.feed(n[0], n[1], n[2], n[3], n[4]);
            case 1 -> x.end(n[0]);
            case 2 -> x.net();
            case 3 -> x.fault();
            case 4 -> x.thing(n[0], n[1]);
            case 5 -> x.branch(n[0], n[1] > 3);
            case 6 -> x.tree(n[0], n[1]);
            case 7 -> x.fewest(n[0]);
            case 8 -> x.acts(n[0], n[1]);
            case 9 -> x.actAt(n[0]);
            case 10 -> x.rows();
            case 11 -> x.times(n[0], n[1], n[2]);
            case 12 -> x.alone(n[0], n[1]);
            case 13 -> x.cost(n[0], n[1]);
            case 14 -> x.reached(n[0], n[1]);
            case 15 -> x.canBe(n[0], n[1], n[2]);
            case 16 -> x.once(n[1] > 3 ? n[0] : n[0] & 1);
            case 17 -> x.onceMany();
            case 18 -> x.onceAt(n[0]);
            case 19 -> x.order(n[0]);
            case 20 -> x.carry(n[0]);
            case 21 -> x.cooks(n[0], n[1]);
            case 22 -> x.promised();
            case 23 -> x.ready(n[0]);
            case 24 -> x.plan();
            case 25 -> x.planAt(n[0]);
            case 26 -> x.judge(n[0], n[1]);
            case 27 -> x.judged(n[0]);
            case 28 -> x.spare(n[0], n[1]);
            case 29 -> x.spareAt(n[0]);
            case 30 -> x.count(n[0]);
            case 31, 32, 33, 34 -> {
                x.end(0);
                Bench.net(x, text);
            }
            case 35, 36, 37 -> {
                x.end(0);
                Bench.plan(x, text);
            }
            default -> {
                x.end(0);
                Bench.tape(x, text);
                x.order(n[0] & 1);
            }
        }
    }
}
