import java.util.Random;
import java.util.Set;
import java.util.TreeSet;

/**
 * What a call answers depends on the NET and the PLAN alone, not on what was asked before, although
 * the searches share their rows: one object with a long past against a new one for every question.
 */
public final class HistoryTest {
    private static final Bench BENCH = new Bench("HistoryTest");
    private static final int QUESTIONS = 14;
    /** No row of answers is looked at farther than this. */
    private static final int MOST_ROW = 30;

    public static void main(String[] args) {
        Random random = new Random(14);
        int rounds = args.length > 0 ? Integer.parseInt(args[0]) : 400;
        for (int round = 0; round < rounds; round++) {
            FewBowls old = new FewBowls();
            calls = 0;
            for (int turn = 0; turn < 6; turn++) {
                // Great nets come rarely, so that small ones find long rows full of what was before.
                int most = random.nextInt(6) == 0 ? 11 : 8;
                String net = randomNet(random, 1 + random.nextInt(most));
                String plan = randomPlan(random, net);
                calls += Bench.callsFor(net) + Bench.callsFor(plan);
                if (calls > Bench.MOST_CALLS) {
                    break;
                }
                Bench.net(old, net);
                Bench.plan(old, plan);
                for (int i = 0; i < 30 && calls <= Bench.MOST_CALLS - MOST_ROW - 3; i++) {
                    ask(old, net, plan, random);
                }
            }
        }
        BENCH.close();
    }

    /** How many calls the object with the past has had. */
    private static int calls;

    private static void ask(FewBowls old, String net, String plan, Random random) {
        FewBowls fresh = Bench.with(net);
        Bench.plan(fresh, plan);
        int which = random.nextInt(QUESTIONS);
        int k = random.nextInt(Math.max(1, fresh.count(0)));
        int ways = random.nextInt(8);
        int b = 1 + random.nextInt(Math.min(14, fresh.count(0) + 1));
        int full = random.nextInt(1 << fresh.count(0));
        String call = "question " + which + " (" + k + ", " + ways + ", " + b + ", " + full + ") of " + net + plan;
        long want = answer(fresh, which, k, ways, b, full);
        asked = 0;
        BENCH.due(call, answer(old, which, k, ways, b, full), want);
        calls += asked;
    }

    /** How many calls the latest answers took. */
    private static int asked;

    private static long answer(FewBowls x, int which, int k, int ways, int b, int full) {
        asked++;
        return switch (which) {
            case 0 -> x.fewest(ways);
            case 1 -> withRow(x, x.acts(ways, b));
            case 2 -> x.times(k, ways, b);
            case 3 -> x.alone(k, ways);
            case 4 -> x.cost(ways, b);
            case 5 -> x.reached(ways, b);
            case 6 -> x.canBe(ways, b, full);
            case 7 -> withOrder(x, x.once(ways & 1));
            case 8 -> x.carry(b);
            case 9 -> x.cooks(1 + k % 4, b);
            case 10 -> x.promised();
            case 11 -> x.ready(ways);
            case 12 -> withJudged(x, x.judge(ways, b));
            default -> withKept(x, x.spare(ways, b));
        };
    }

    private static long withRow(FewBowls x, int length) {
        long sum = length;
        for (int i = 0; i < length && i < MOST_ROW; i++) {
            asked++;
            sum = sum * 31 + x.actAt(i);
        }
        asked++;
        return length < 0 ? sum : sum * 31 + x.rows();
    }

    private static long withOrder(FewBowls x, int bowls) {
        asked++;
        long sum = bowls * 31L + x.onceMany();
        for (int i = 0; i < 14; i++) {
            asked++;
            sum = sum * 31 + x.onceAt(i);
        }
        return sum;
    }

    private static long withJudged(FewBowls x, int done) {
        asked += 2;
        return done * 10000L + x.judged(0) * 1000L + x.judged(1);
    }

    private static long withKept(FewBowls x, int length) {
        long sum = length;
        for (int i = 0; i < length && i < MOST_ROW; i++) {
            asked++;
            sum = sum * 31 + x.spareAt(i);
        }
        return sum;
    }

    private static char name(int k) {
        return (char) ('a' + k);
    }

    private static String randomNet(Random random, int things) {
        StringBuilder told = new StringBuilder();
        for (int k = 0; k < things; k++) {
            Set<Integer> parts = new TreeSet<>();
            int many = k == 0 || random.nextInt(10) < 3 ? 0 : 1 + random.nextInt(Math.min(k, 3));
            while (parts.size() < many) {
                parts.add(random.nextInt(k));
            }
            told.append(many == 0 ? "raw " : "make ").append(name(k)).append(many == 0 ? "" : " of");
            for (int p : parts) {
                told.append(' ').append(name(p));
            }
            told.append(random.nextInt(3) == 0 ? " costs " + random.nextInt(100) : "").append(';');
        }
        told.append("wish ").append(name(things - 1));
        if (things > 1 && random.nextBoolean()) {
            told.append(' ').append(name(random.nextInt(things - 1)));
        }
        return told.append(';').toString();
    }

    private static String randomPlan(Random random, String net) {
        int things = Bench.with(net).count(0);
        StringBuilder told = new StringBuilder();
        for (int i = random.nextInt(30); i > 0; i--) {
            char x = name(random.nextInt(things));
            told.append(random.nextInt(4) == 0 ? "wash " : "make ").append(x);
            told.append(told.lastIndexOf("make ") > told.lastIndexOf(";") && random.nextInt(5) == 0
                ? " in " + name(random.nextInt(things)) : "");
            told.append(';');
        }
        return told.toString();
    }
}
