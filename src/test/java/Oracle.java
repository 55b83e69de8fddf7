import java.util.ArrayDeque;
import java.util.ArrayList;
import java.util.Arrays;
import java.util.Collections;
import java.util.HashMap;
import java.util.HashSet;
import java.util.LinkedHashMap;
import java.util.List;
import java.util.Map;
import java.util.Set;
import java.util.TreeSet;

/**
 * The document's Terms in the plainest form that can be thought of, slow and written apart from
 * the class: sets of Integers, every ACT number tried, every order and every choice walked.
 */
final class Oracle {
    final List<Set<Integer>> parts = new ArrayList<>();
    final List<Integer> price = new ArrayList<>();
    final Set<Integer> wished = new TreeSet<>();

    int things() {
        return parts.size();
    }

    boolean raw(int k) {
        return parts.get(k).isEmpty();
    }

    Set<Integer> below(int k) {
        Set<Integer> all = new TreeSet<>();
        all.add(k);
        for (int p : parts.get(k)) {
            all.addAll(below(p));
        }
        return all;
    }

    Set<Integer> needed() {
        Set<Integer> all = new TreeSet<>();
        for (int w : wished) {
            all.addAll(below(w));
        }
        return all;
    }

    static int bits(Set<Integer> set) {
        int all = 0;
        for (int k : set) {
            all |= 1 << k;
        }
        return all;
    }

    int copies(int k) {
        int sum = 1;
        for (int p : parts.get(k)) {
            sum += copies(p);
        }
        return sum;
    }

    int depth(int k) {
        int most = -1;
        for (int p : parts.get(k)) {
            most = Math.max(most, depth(p));
        }
        return most + 1;
    }

    int branch(int k, boolean inPlace) {
        if (raw(k)) {
            return 1;
        }
        List<Integer> list = new ArrayList<>();
        for (int p : parts.get(k)) {
            list.add(branch(p, inPlace));
        }
        list.sort(Collections.reverseOrder());
        int most = inPlace ? 0 : list.size() + 1;
        for (int i = 1; i <= list.size(); i++) {
            most = Math.max(most, list.get(i - 1) + i - 1);
        }
        return most;
    }

    // ---- 2: ACTS

    /** The set behind the act, or null if it is not let. */
    Set<Integer> after(Set<Integer> full, int act, int ways, int b) {
        Set<Integer> next = new TreeSet<>(full);
        if (act >= 0 && act <= 13) {
            if (act >= things() || full.contains(act) || !full.containsAll(parts.get(act))) {
                return null;
            }
            next.add(act);
        } else if (act >= 20 && act <= 33) {
            int x = act - 20;
            if (x >= things() || !full.contains(x)) {
                return null;
            }
            if ((ways & 2) != 0 && !full.containsAll(parts.get(x))) {
                return null;
            }
            next.remove(x);
        } else if (act >= 100) {
            int x = (act - 100) / 20;
            int y = (act - 100) % 20;
            if ((ways & 1) == 0 || x >= things() || y >= things()) {
                return null;
            }
            if (full.contains(x) || !full.containsAll(parts.get(x)) || !parts.get(x).contains(y)) {
                return null;
            }
            if ((ways & 2) != 0 && !full.containsAll(parts.get(y))) {
                return null;
            }
            next.remove(y);
            next.add(x);
        } else {
            return null;
        }
        return next.size() <= b ? next : null;
    }

    boolean isEnd(Set<Integer> full, Set<Integer> wish, int ways) {
        return (ways & 4) != 0 ? full.equals(wish) : full.containsAll(wish);
    }

    int made(int act) {
        return act <= 13 ? act : act >= 100 ? (act - 100) / 20 : -1;
    }

    private static final int MOST_ACT = 100 + 20 * 13 + 13;

    /** All that can be FULL, each with all its let acts. */
    Map<Set<Integer>, Map<Integer, Set<Integer>>> graph(int ways, int b) {
        Map<Set<Integer>, Map<Integer, Set<Integer>>> graph = new LinkedHashMap<>();
        ArrayDeque<Set<Integer>> todo = new ArrayDeque<>();
        Set<Set<Integer>> known = new HashSet<>();
        Set<Integer> empty = new TreeSet<>();
        todo.add(empty);
        known.add(empty);
        while (!todo.isEmpty()) {
            Set<Integer> full = todo.poll();
            Map<Integer, Set<Integer>> out = new LinkedHashMap<>();
            for (int act = 0; act <= MOST_ACT; act++) {
                Set<Integer> next = after(full, act, ways, b);
                if (next != null) {
                    out.put(act, next);
                    if (known.add(next)) {
                        todo.add(next);
                    }
                }
            }
            graph.put(full, out);
        }
        return graph;
    }

    int fewest(int ways, Set<Integer> wish) {
        for (int b = 1; b <= things(); b++) {
            for (Set<Integer> full : graph(ways, b).keySet()) {
                if (isEnd(full, wish, ways)) {
                    return b;
                }
            }
        }
        return -1;
    }

    int ready(int ways) {
        int without = fewest(ways, wished);
        int best = -1;
        int least = without;
        for (int k = 0; k < things(); k++) {
            if (raw(k)) {
                continue;
            }
            Set<Integer> old = parts.get(k);
            parts.set(k, new TreeSet<>());
            int got = fewest(ways, wished);
            parts.set(k, old);
            if (got < least) {
                least = got;
                best = k;
            }
        }
        return best;
    }

    /** Rows of acts of the least length, by length; the first of them and how many (all of them, uncut). */
    static final class Least {
        int length = -1;
        List<Integer> first = new ArrayList<>();
        long many;
    }

    Least leastActs(int ways, int b) {
        Map<Set<Integer>, Map<Integer, Set<Integer>>> graph = graph(ways, b);
        Least least = new Least();
        // Layer by layer, for each set the first row that leads to it, and how many do.
        Map<Set<Integer>, List<Integer>> firsts = new HashMap<>();
        Map<Set<Integer>, Long> many = new HashMap<>();
        firsts.put(new TreeSet<>(), new ArrayList<>());
        many.put(new TreeSet<>(), 1L);
        for (int length = 0; length <= graph.size(); length++) {
            for (Set<Integer> full : firsts.keySet()) {
                if (isEnd(full, wished, ways)) {
                    least.many += many.get(full);
                    if (least.length < 0 || compare(firsts.get(full), least.first) < 0) {
                        least.first = firsts.get(full);
                    }
                    least.length = length;
                }
            }
            if (least.length >= 0) {
                return least;
            }
            Map<Set<Integer>, List<Integer>> nextFirsts = new HashMap<>();
            Map<Set<Integer>, Long> nextMany = new HashMap<>();
            for (Set<Integer> full : firsts.keySet()) {
                for (Map.Entry<Integer, Set<Integer>> out : graph.get(full).entrySet()) {
                    List<Integer> row = new ArrayList<>(firsts.get(full));
                    row.add(out.getKey());
                    List<Integer> old = nextFirsts.get(out.getValue());
                    if (old == null || compare(row, old) < 0) {
                        nextFirsts.put(out.getValue(), row);
                    }
                    // All rows are walked, going back and forth too; more than 10^15 are not needed.
                    nextMany.merge(out.getValue(), many.get(full),
                        (p, q) -> Math.min(1_000_000_000_000_000L, p + q));
                }
            }
            firsts = nextFirsts;
            many = nextMany;
        }
        return least;
    }

    static int compare(List<Integer> p, List<Integer> q) {
        for (int i = 0; i < Math.min(p.size(), q.size()); i++) {
            if (!p.get(i).equals(q.get(i))) {
                return p.get(i) - q.get(i);
            }
        }
        return p.size() - q.size();
    }

    /** only < 0: what all makings cost; else how many times only is made. */
    int leastSum(int ways, int b, int only) {
        Map<Set<Integer>, Map<Integer, Set<Integer>>> graph = graph(ways, b);
        Map<Set<Integer>, Integer> sum = new HashMap<>();
        sum.put(new TreeSet<>(), 0);
        boolean changed = true;
        while (changed) {
            changed = false;
            for (Set<Integer> full : graph.keySet()) {
                Integer here = sum.get(full);
                if (here == null) {
                    continue;
                }
                for (Map.Entry<Integer, Set<Integer>> out : graph.get(full).entrySet()) {
                    int x = made(out.getKey());
                    int step = x < 0 ? 0 : only < 0 ? price.get(x) : x == only ? 1 : 0;
                    Integer old = sum.get(out.getValue());
                    if (old == null || here + step < old) {
                        sum.put(out.getValue(), here + step);
                        changed = true;
                    }
                }
            }
        }
        int best = -1;
        for (Map.Entry<Set<Integer>, Integer> e : sum.entrySet()) {
            if (isEnd(e.getKey(), wished, ways) && (best < 0 || e.getValue() < best)) {
                best = e.getValue();
            }
        }
        return best;
    }

    // ---- 3: ORDERS

    /** BOWLS of an order by doing it act by act; -1 if it is none. */
    int bowlsOf(List<Integer> order, int ways) {
        Set<Integer> needed = needed();
        if (order.size() != needed.size() || !new TreeSet<>(order).equals(needed)) {
            return -1;
        }
        Set<Integer> full = new TreeSet<>();
        int most = 0;
        for (int i = 0; i < order.size(); i++) {
            int x = order.get(i);
            if (!order.subList(0, i).containsAll(parts.get(x))) {
                return -1;
            }
            Set<Integer> washed = new TreeSet<>();
            for (int y : full) {
                boolean used = wished.contains(y);
                for (int later : order.subList(i + 1, order.size())) {
                    used |= parts.get(later).contains(y);
                }
                if (!used) {
                    washed.add(y);
                }
            }
            boolean inPlace = false;
            for (int y : washed) {
                inPlace |= ways == 1 && parts.get(x).contains(y);
            }
            most = Math.max(most, inPlace ? full.size() : full.size() + 1);
            full.removeAll(washed);
            full.add(x);
        }
        return most;
    }

    static final class Best {
        int bowls = 99;
        long many;
        List<Integer> first = new ArrayList<>();
    }

    Best bestOrders(int ways) {
        Best best = new Best();
        walkOrders(new ArrayList<>(), new ArrayList<>(needed()), ways, best);
        return best;
    }

    private void walkOrders(List<Integer> made, List<Integer> rest, int ways, Best best) {
        if (rest.isEmpty()) {
            int bowls = bowlsOf(made, ways);
            if (bowls < 0) {
                return;
            }
            if (bowls < best.bowls) {
                best.bowls = bowls;
                best.many = 0;
                best.first = new ArrayList<>(made);
            }
            if (bowls == best.bowls) {
                best.many++;
            }
            return;
        }
        for (int i = 0; i < rest.size(); i++) {
            int x = rest.get(i);
            if (!made.containsAll(parts.get(x))) {
                continue;
            }
            List<Integer> more = new ArrayList<>(made);
            more.add(x);
            List<Integer> less = new ArrayList<>(rest);
            less.remove(i);
            walkOrders(more, less, ways, best);
        }
    }

    // ---- 4: CELLAR, COOKS, PROMISED

    int carry(int b) {
        Map<List<Integer>, Integer> cost = new HashMap<>();
        ArrayDeque<List<Integer>> todo = new ArrayDeque<>();
        int raws = 0;
        for (int k = 0; k < things(); k++) {
            raws |= raw(k) ? 1 << k : 0;
        }
        int best = -1;
        List<Integer> start = Arrays.asList(0, raws);
        cost.put(start, 0);
        todo.add(start);
        while (!todo.isEmpty()) {
            List<Integer> state = todo.poll();
            int table = state.get(0);
            int cellar = state.get(1);
            int here = cost.get(state);
            if ((cellar & bits(wished)) == bits(wished) && (best < 0 || here < best)) {
                best = here;
            }
            for (int x = 0; x < things(); x++) {
                int one = 1 << x;
                int made = bits(parts.get(x));
                if ((cellar & one) != 0) {
                    relax(cost, todo, table | one, cellar, here + 1, b);
                }
                if ((table & one) != 0) {
                    relax(cost, todo, table, cellar | one, here + 1, b);
                    relax(cost, todo, table & ~one, cellar, here, b);
                } else if (!raw(x) && (table & made) == made) {
                    relax(cost, todo, table | one, cellar, here, b);
                }
            }
        }
        return best;
    }

    private static void relax(Map<List<Integer>, Integer> cost, ArrayDeque<List<Integer>> todo,
                              int table, int cellar, int sum, int b) {
        if (Integer.bitCount(table) > b) {
            return;
        }
        List<Integer> state = Arrays.asList(table, cellar);
        Integer old = cost.get(state);
        if (old == null || sum < old) {
            cost.put(state, sum);
            todo.add(state);
        }
    }

    int cooks(int k, int b) {
        Set<Integer> now = new HashSet<>();
        now.add(0);
        int wish = bits(wished);
        for (int hours = 1; hours <= 300; hours++) {
            Set<Integer> next = new HashSet<>(now);
            for (int full : now) {
                for (int kept = 0; kept < 1 << things(); kept++) {
                    if ((kept & ~full) != 0) {
                        continue;
                    }
                    for (int made = 0; made < 1 << things(); made++) {
                        if ((made & kept) != 0 || Integer.bitCount(made) > k
                                || Integer.bitCount(made | kept) > b) {
                            continue;
                        }
                        boolean let = true;
                        for (int x = 0; x < things(); x++) {
                            if ((made >> x & 1) == 1) {
                                let &= (kept & bits(parts.get(x))) == bits(parts.get(x));
                            }
                        }
                        if (let) {
                            next.add(kept | made);
                        }
                    }
                }
            }
            for (int full : next) {
                if ((full & wish) == wish) {
                    return hours;
                }
            }
            if (next.equals(now)) {
                return -1;
            }
            now = next;
        }
        return -1;
    }

    /** Here a THING may be FULL in one bowl while another holds its promise; that must not matter. */
    int promised() {
        for (int b = 1; b <= 2 * things(); b++) {
            Set<List<Integer>> known = new HashSet<>();
            ArrayDeque<List<Integer>> todo = new ArrayDeque<>();
            todo.add(Arrays.asList(0, 0));
            known.add(Arrays.asList(0, 0));
            while (!todo.isEmpty()) {
                List<Integer> state = todo.poll();
                int full = state.get(0);
                int owed = state.get(1);
                if (owed == 0 && (full & bits(wished)) == bits(wished)) {
                    return b;
                }
                for (int x = 0; x < things(); x++) {
                    int one = 1 << x;
                    int made = bits(parts.get(x));
                    boolean served = ((full | owed) & made) == made;
                    if ((full & one) != 0) {
                        come(known, todo, full & ~one, owed, b);
                    }
                    if ((full & one) == 0 && served) {
                        come(known, todo, full | one, owed, b);
                    }
                    if ((full & one) == 0 && (owed & one) == 0) {
                        come(known, todo, full, owed | one, b);
                    }
                    if ((owed & one) != 0 && served) {
                        come(known, todo, full | one, owed & ~one, b);
                    }
                }
            }
        }
        return -1;
    }

    private static void come(Set<List<Integer>> known, ArrayDeque<List<Integer>> todo, int full, int owed, int b) {
        List<Integer> state = Arrays.asList(full, owed);
        if (Integer.bitCount(full) + Integer.bitCount(owed) <= b && known.add(state)) {
            todo.add(state);
        }
    }

    // ---- 6: the PLAN

    int judge(List<Integer> plan, int ways, int b, int[] judged) {
        Set<Integer> full = new TreeSet<>();
        judged[0] = 0;
        judged[1] = 0;
        for (int i = 0; i < plan.size(); i++) {
            Set<Integer> next = after(full, plan.get(i), ways, b);
            if (next == null) {
                return i;
            }
            full = next;
            judged[0] = Math.max(judged[0], full.size());
            judged[1] += made(plan.get(i)) < 0 ? 0 : price.get(made(plan.get(i)));
        }
        return isEnd(full, wished, ways) ? 1000 + plan.size() : -1 - plan.size();
    }

    /** The places kept, or null. Every choice that is let is walked. */
    List<Integer> spare(List<Integer> plan, int ways, int b) {
        List<List<Integer>> best = new ArrayList<>();
        best.add(null);
        walkPlan(plan, 0, new TreeSet<>(), new ArrayList<>(), ways, b, best);
        return best.get(0);
    }

    private void walkPlan(List<Integer> plan, int at, Set<Integer> full, List<Integer> kept, int ways, int b,
                          List<List<Integer>> best) {
        if (at == plan.size()) {
            List<Integer> old = best.get(0);
            if (isEnd(full, wished, ways) && (old == null || kept.size() < old.size()
                    || kept.size() == old.size() && compare(kept, old) < 0)) {
                best.set(0, new ArrayList<>(kept));
            }
            return;
        }
        Set<Integer> next = after(full, plan.get(at), ways, b);
        if (next != null) {
            kept.add(at);
            walkPlan(plan, at + 1, next, kept, ways, b, best);
            kept.remove(kept.size() - 1);
        }
        walkPlan(plan, at + 1, full, kept, ways, b, best);
    }
}
