import java.util.ArrayList;
import java.util.List;
import java.util.Random;
import java.util.Set;
import java.util.TreeSet;

/** Promises 6 to 31 on many small nets against the plain Oracle; the nets are the same in every run. */
public final class OracleTest {
    private static final Bench BENCH = new Bench("OracleTest");
    private static String text;

    public static void main(String[] args) {
        Random random = new Random(20261118);
        int rounds = args.length > 0 ? Integer.parseInt(args[0]) : 60;
        for (int round = 0; round < rounds; round++) {
            int things = args.length > 1 ? Integer.parseInt(args[1]) : 1 + random.nextInt(round % 10 == 0 ? 6 : 5);
            Oracle oracle = randomNet(random, things);
            FewBowls x = new FewBowls();
            BENCH.due("net() of " + text, Bench.net(x, text), things);
            checkThings(x, oracle);
            for (int ways = 0; ways < 8; ways++) {
                checkFewest(x, oracle, ways);
                for (int b = 1; b <= things + 1; b++) {
                    checkBowls(Bench.with(text), oracle, ways, b);
                }
            }
            checkOrders(x, oracle, random);
            checkSmall(x, oracle);
            checkPlans(oracle, random);
        }
        BENCH.close();
    }

    private static void due(String call, long got, long want) {
        BENCH.due(call + " of " + text, got, want);
    }

    private static Oracle randomNet(Random random, int things) {
        Oracle oracle = new Oracle();
        StringBuilder told = new StringBuilder();
        for (int k = 0; k < things; k++) {
            Set<Integer> parts = new TreeSet<>();
            if (k > 0 && random.nextInt(10) < 7) {
                int many = 1 + random.nextInt(Math.min(k, 3));
                while (parts.size() < many) {
                    parts.add(random.nextInt(k));
                }
            }
            told.append(parts.isEmpty() ? "raw " : "make ").append(name(k));
            told.append(parts.isEmpty() ? "" : " of");
            for (int p : parts) {
                told.append(' ').append(name(p));
            }
            int price = random.nextInt(3) == 0 ? random.nextInt(100) : 1;
            if (price != 1) {
                told.append(" costs ").append(price);
            }
            told.append(random.nextBoolean() ? ";" : " ;\n");
            oracle.parts.add(parts);
            oracle.price.add(price);
        }
        int wishes = 1 + random.nextInt(Math.min(things, 3));
        while (oracle.wished.size() < wishes) {
            int w = random.nextInt(3) == 0 ? random.nextInt(things) : things - 1 - random.nextInt(Math.min(3, things));
            if (oracle.wished.add(w)) {
                told.append("wish ").append(name(w)).append(';');
            }
        }
        text = told.toString();
        return oracle;
    }

    private static String name(int k) {
        return String.valueOf((char) ('a' + k));
    }

    private static void checkThings(FewBowls x, Oracle oracle) {
        for (int k = 0; k < oracle.things(); k++) {
            due("thing " + k + " 0", x.thing(k, 0), oracle.price.get(k));
            due("thing " + k + " 1", x.thing(k, 1), oracle.raw(k) ? 1 : 0);
            due("thing " + k + " 2", x.thing(k, 2), oracle.wished.contains(k) ? 1 : 0);
            due("thing " + k + " 3", x.thing(k, 3), oracle.needed().contains(k) ? 1 : 0);
            due("thing " + k + " 4", x.thing(k, 4), Oracle.bits(oracle.parts.get(k)));
            due("thing " + k + " 5", x.thing(k, 5), Oracle.bits(oracle.below(k)));
            due("tree " + k + " 0", x.tree(k, 0), oracle.copies(k));
            due("tree " + k + " 1", x.tree(k, 1), oracle.depth(k));
            due("branch " + k + " false", x.branch(k, false), oracle.branch(k, false));
            due("branch " + k + " true", x.branch(k, true), oracle.branch(k, true));
        }
    }

    private static void checkFewest(FewBowls x, Oracle oracle, int ways) {
        due("fewest " + ways, x.fewest(ways), oracle.fewest(ways, oracle.wished));
        due("ready " + ways, x.ready(ways), oracle.ready(ways));
        for (int k = 0; k < oracle.things(); k++) {
            due("alone " + k + " " + ways, x.alone(k, ways), oracle.fewest(ways, new TreeSet<>(Set.of(k))));
        }
    }

    private static void checkBowls(FewBowls x, Oracle oracle, int ways, int b) {
        String by = " " + ways + " " + b;
        Set<Integer> reached = new TreeSet<>();
        for (Set<Integer> full : oracle.graph(ways, b).keySet()) {
            reached.add(Oracle.bits(full));
        }
        due("reached" + by, x.reached(ways, b), reached.size());
        for (int full = 0; full < 1 << oracle.things(); full++) {
            due("canBe" + by + " " + full, x.canBe(ways, b, full), reached.contains(full) ? 1 : 0);
        }
        Oracle.Least least = oracle.leastActs(ways, b);
        due("acts" + by, x.acts(ways, b), least.length);
        if (least.length >= 0) {
            due("rows" + by, x.rows(), least.many);
            for (int i = 0; i < least.length; i++) {
                due("actAt " + i + by, x.actAt(i), least.first.get(i));
            }
            due("actAt " + least.length + by, x.actAt(least.length), -1);
        }
        due("cost" + by, x.cost(ways, b), oracle.leastSum(ways, b, -1));
        for (int k = 0; k < oracle.things(); k++) {
            due("times " + k + by, x.times(k, ways, b), oracle.leastSum(ways, b, k));
        }
    }

    private static void checkOrders(FewBowls x, Oracle oracle, Random random) {
        for (int ways = 0; ways < 2; ways++) {
            Oracle.Best best = oracle.bestOrders(ways);
            due("once " + ways, x.once(ways), best.bowls);
            due("onceMany " + ways, x.onceMany(), best.many);
            for (int i = 0; i < best.first.size(); i++) {
                due("onceAt " + i + " " + ways, x.onceAt(i), best.first.get(i));
            }
            due("onceAt past " + ways, x.onceAt(best.first.size()), -1);
            for (int trial = 0; trial < 20; trial++) {
                List<Integer> order = new ArrayList<>(oracle.needed());
                for (int swap = random.nextInt(4); swap > 0; swap--) {
                    int i = random.nextInt(order.size());
                    int j = random.nextInt(order.size());
                    int old = order.get(i);
                    order.set(i, order.get(j));
                    order.set(j, old);
                }
                if (random.nextInt(6) == 0) {
                    order.set(random.nextInt(order.size()), random.nextInt(oracle.things()));
                }
                int[] row = new int[order.size()];
                for (int i = 0; i < row.length; i++) {
                    row[i] = order.get(i);
                }
                due("order " + ways + " " + order, Bench.order(x, ways, row), oracle.bowlsOf(order, ways));
            }
        }
    }

    private static void checkSmall(FewBowls x, Oracle oracle) {
        due("promised", x.promised(), oracle.promised());
        for (int b = 1; b <= Math.min(8, oracle.things() + 1); b++) {
            due("carry " + b, x.carry(b), oracle.carry(b));
            for (int k = 1; k <= 4; k++) {
                due("cooks " + k + " " + b, x.cooks(k, b), oracle.cooks(k, b));
            }
        }
    }

    private static void checkPlans(Oracle oracle, Random random) {
        for (int trial = 0; trial < 12; trial++) {
            int planWays = random.nextInt(4);
            int planBowls = 1 + random.nextInt(oracle.things());
            List<Integer> plan = new ArrayList<>();
            StringBuilder told = new StringBuilder();
            Set<Integer> full = new TreeSet<>();
            int length = random.nextInt(14);
            for (int i = 0; i < length; i++) {
                int act = randomAct(oracle, random, full, planWays, planBowls);
                Set<Integer> next = oracle.after(full, act, planWays, planBowls);
                full = next == null ? full : next;
                plan.add(act);
                told.append(tell(act));
            }
            for (int ways = 0; ways < 8; ways++) {
                FewBowls x = Bench.with(text);
                due("plan " + told, Bench.plan(x, told.toString()), length);
                for (int i = 0; i < length; i++) {
                    due("planAt " + i + " " + told, x.planAt(i), plan.get(i));
                }
                for (int b = 1; b <= oracle.things(); b++) {
                    checkPlan(x, oracle, plan, ways, b);
                }
            }
        }
    }

    private static int randomAct(Oracle oracle, Random random, Set<Integer> full, int ways, int b) {
        List<Integer> let = new ArrayList<>();
        for (int act = 0; act < 400; act++) {
            if (oracle.after(full, act, ways, b) != null) {
                let.add(act);
                // Makings oftener than washings, so that plans come to the END.
                if (oracle.made(act) >= 0) {
                    let.add(act);
                    let.add(act);
                }
            }
        }
        if (!let.isEmpty() && random.nextInt(12) > 0) {
            return let.get(random.nextInt(let.size()));
        }
        int x = random.nextInt(oracle.things());
        int y = random.nextInt(oracle.things());
        return new int[] {x, 20 + x, 100 + 20 * x + y}[random.nextInt(3)];
    }

    private static String tell(int act) {
        if (act < 20) {
            return "make " + name(act) + ";";
        }
        if (act < 100) {
            return "wash " + name(act - 20) + "; ";
        }
        return "make " + name((act - 100) / 20) + " in " + name((act - 100) % 20) + ";";
    }

    private static void checkPlan(FewBowls x, Oracle oracle, List<Integer> plan, int ways, int b) {
        String by = " " + ways + " " + b + " " + plan;
        int[] judged = new int[2];
        due("judge" + by, x.judge(ways, b), oracle.judge(plan, ways, b, judged));
        due("judged 0" + by, x.judged(0), judged[0]);
        due("judged 1" + by, x.judged(1), judged[1]);
        List<Integer> kept = oracle.spare(plan, ways, b);
        due("spare" + by, x.spare(ways, b), kept == null ? -1 : kept.size());
        if (kept != null) {
            for (int i = 0; i < kept.size(); i++) {
                due("spareAt " + i + by, x.spareAt(i), kept.get(i));
            }
            due("spareAt past" + by, x.spareAt(kept.size()), -1);
        }
    }
}
