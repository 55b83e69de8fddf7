import java.util.ArrayList;
import java.util.List;
import java.util.Random;
import java.util.regex.Matcher;
import java.util.regex.Pattern;

/** Promises 4, 5 and 26: nets and plans, spoilt at random, against a reader written another way. */
public final class ReaderTest {
    private static final Bench BENCH = new Bench("ReaderTest");
    private static final List<String> KEPT = List.of("raw", "make", "of", "costs", "wish", "wash", "in");

    /** The first FAULT, thrown by the reader below. */
    private static final class Fault extends RuntimeException {
        private static final long serialVersionUID = 1;
        final int kind;
        final int place;

        Fault(int kind, int place) {
            this.kind = kind;
            this.place = place;
        }
    }

    private static final Pattern TOKEN = Pattern.compile("[ \\n]*([a-z0-9]+|;|)");
    private String text;
    private int next;
    private String token;
    private int place;
    private final List<String> names = new ArrayList<>();
    private final List<Integer> acts = new ArrayList<>();

    /** token: a word, a number, ";", "" for the end, "?" for no TOKEN. */
    private void read() {
        Matcher matcher = TOKEN.matcher(text);
        matcher.region(next, text.length());
        matcher.lookingAt();
        place = matcher.start(1);
        next = matcher.end();
        token = matcher.group(1);
        if (text.length() > 500 && place >= 500) {
            throw new Fault(1, 500);
        }
        if (token.isEmpty() && place < text.length()) {
            token = "?";
        } else if (!token.matches("[a-z]{1,6}|[0-9]{1,2}|;|")) {
            token = "?";
        }
    }

    private void want(boolean good, int kind) {
        if (!good) {
            throw new Fault(kind, place);
        }
    }

    private boolean isName() {
        return token.matches("[a-z]+") && !KEPT.contains(token);
    }

    private int readNet(String told) {
        text = told;
        next = 0;
        names.clear();
        List<String> wished = new ArrayList<>();
        for (read(); !token.isEmpty(); read()) {
            if (token.equals("wish")) {
                read();
                do {
                    want(isName(), 1);
                    want(names.contains(token) && !wished.contains(token), 3);
                    wished.add(token);
                    read();
                } while (!token.equals(";"));
                continue;
            }
            boolean make = token.equals("make");
            want(make || token.equals("raw"), 1);
            want(names.size() < 14, 4);
            read();
            want(isName(), 1);
            want(!names.contains(token), 3);
            String name = token;
            read();
            if (make) {
                want(token.equals("of"), 1);
                List<String> parts = new ArrayList<>();
                read();
                do {
                    want(isName(), 1);
                    want(names.contains(token) && !parts.contains(token), 3);
                    want(parts.size() < 6, 4);
                    parts.add(token);
                    read();
                } while (!token.equals(";") && !token.equals("costs"));
            }
            if (token.equals("costs")) {
                read();
                want(token.matches("[0-9]+"), 1);
                read();
            }
            want(token.equals(";"), 1);
            names.add(name);
        }
        want(!wished.isEmpty(), 1);
        return names.size();
    }

    private int thing() {
        read();
        want(isName(), 1);
        want(names.contains(token), 3);
        int k = names.indexOf(token);
        read();
        return k;
    }

    private int readPlan(String told) {
        text = told;
        next = 0;
        acts.clear();
        for (read(); !token.isEmpty(); read()) {
            boolean make = token.equals("make");
            want(make || token.equals("wash"), 1);
            want(acts.size() < 60, 4);
            int x = thing();
            int act = make ? x : 20 + x;
            if (make && token.equals("in")) {
                act = 100 + 20 * x + thing();
            }
            want(token.equals(";"), 1);
            acts.add(act);
        }
        return acts.size();
    }

    private static final String[] BITS = {
        "raw", "make", "of", "costs", "wish", "wash", "in", ";", ";", "7", "42", "007", "a", "b", "c", "abcdef",
        "abcdefg", "a1", "1a", "A", ".", "\t", "\n", " ", "raws", "mak", "\0", "\u00e4", "wisha"
    };

    private static List<String> validNet(Random random) {
        List<String> out = new ArrayList<>();
        int things = 1 + random.nextInt(random.nextInt(4) == 0 ? 17 : 6);
        List<String> told = new ArrayList<>();
        for (int k = 0; k < things; k++) {
            boolean make = k > 0 && random.nextInt(3) > 0;
            String name = random.nextInt(30) == 0 && k > 0 ? told.get(0) : name(random, k);
            out.add(make ? "make" : "raw");
            out.add(name);
            if (make) {
                out.add("of");
                int parts = 1 + random.nextInt(random.nextInt(5) == 0 ? Math.min(k, 8) : Math.min(k, 3));
                List<String> left = new ArrayList<>(told);
                for (int i = 0; i < parts && !left.isEmpty(); i++) {
                    out.add(left.remove(random.nextInt(left.size())));
                }
            }
            told.add(name);
            if (random.nextInt(4) == 0) {
                out.add("costs");
                out.add(String.valueOf(random.nextInt(100)));
            }
            out.add(";");
        }
        out.add("wish");
        out.add(told.get(random.nextInt(told.size())));
        out.add(";");
        return out;
    }

    private static String name(Random random, int k) {
        String letter = String.valueOf((char) ('a' + k));
        return letter.repeat(1 + random.nextInt(3) * random.nextInt(2)) + (random.nextInt(9) == 0 ? "zzz" : "");
    }

    private List<String> validPlan(Random random) {
        List<String> out = new ArrayList<>();
        int length = random.nextInt(random.nextInt(4) == 0 ? 64 : 8);
        for (int i = 0; i < length; i++) {
            boolean make = random.nextBoolean();
            out.add(make ? "make" : "wash");
            out.add(names.get(random.nextInt(names.size())));
            if (make && random.nextInt(4) == 0) {
                out.add("in");
                out.add(names.get(random.nextInt(names.size())));
            }
            out.add(";");
        }
        return out;
    }

    private static String spoil(List<String> tokens, Random random) {
        for (int many = random.nextInt(3); many > 0 && !tokens.isEmpty(); many--) {
            int at = random.nextInt(tokens.size());
            switch (random.nextInt(5)) {
                case 0 -> tokens.remove(at);
                case 1 -> tokens.add(at, BITS[random.nextInt(BITS.length)]);
                case 2 -> tokens.set(at, BITS[random.nextInt(BITS.length)]);
                case 3 -> tokens.add(at, tokens.get(random.nextInt(tokens.size())));
                default -> tokens.subList(at, tokens.size()).clear();
            }
        }
        StringBuilder told = new StringBuilder();
        int gap = random.nextInt(8) == 0 ? 40 : 2;
        for (String one : tokens) {
            boolean both = told.length() > 0 && Character.isLetterOrDigit(told.charAt(told.length() - 1))
                && Character.isLetterOrDigit(one.charAt(0));
            for (int i = random.nextInt(gap) + (both && random.nextInt(300) > 0 ? 1 : 0); i > 0; i--) {
                told.append(random.nextInt(5) == 0 ? '\n' : ' ');
            }
            told.append(one);
        }
        for (int i = random.nextInt(6) == 0 ? random.nextInt(540) : 0; told.length() < i; ) {
            told.insert(random.nextInt(3) == 0 ? told.length() : 0, ' ');
        }
        return told.length() > 540 ? told.substring(0, 540) : told.toString();
    }

    private int due(boolean net, String told, int[] kind) {
        kind[0] = 0;
        try {
            return net ? readNet(told) : readPlan(told);
        } catch (Fault fault) {
            kind[0] = fault.kind;
            return -1 - fault.place;
        }
    }

    public static void main(String[] args) {
        Random random = new Random(32);
        int rounds = args.length > 0 ? Integer.parseInt(args[0]) : 20000;
        int[] kind = new int[1];
        int[] seen = new int[5];
        int atLimit = 0;
        for (int round = 0; round < rounds; round++) {
            ReaderTest mine = new ReaderTest();
            FewBowls x = new FewBowls();
            String told = spoil(validNet(random), random);
            int want = mine.due(true, told, kind);
            BENCH.due("net() of " + told, Bench.net(x, told), want);
            BENCH.due("fault() of " + told, x.fault(), kind[0]);
            BENCH.due("count(2) behind net()", x.count(2), 0);
            BENCH.due("count(0) of " + told, x.count(0), Math.max(want, 0));
            seen[kind[0]]++;
            atLimit += want == -501 ? 1 : 0;
            if (want < 0) {
                continue;
            }
            for (int trial = 0; trial < 3; trial++) {
                int before = x.count(1);
                told = spoil(mine.validPlan(random), random);
                want = mine.due(false, told, kind);
                BENCH.due("plan() of " + told, Bench.plan(x, told), want);
                BENCH.due("fault() of " + told, x.fault(), kind[0]);
                BENCH.due("count(1) of " + told, x.count(1), want < 0 ? before : want);
                for (int i = 0; i < want; i++) {
                    BENCH.due("planAt(" + i + ") of " + told, x.planAt(i), mine.acts.get(i));
                }
            }
        }
        System.out.println("nets without a fault " + seen[0] + ", with 1: " + seen[1] + ", 3: " + seen[3] + ", 4: "
            + seen[4] + ", at 500: " + atLimit);
        BENCH.due("every kind of fault was met", seen[0] > 0 && seen[1] > 0 && seen[3] > 0 && seen[4] > 0
            && atLimit > 0, true);
        BENCH.close();
    }
}
