import java.util.NoSuchElementException;

/**
 * A kitchen in which each thing is made of others and fills a bowl. The words in capitals are
 * those of the document's part 'Terms'; sets of THINGS are held as bits throughout.
 */
public final class FewBowls {
    public static final int NONE = -1;

    private static final int NOT_AS_TOLD = -2;
    private static final int NOT_JUDGED = -1000;
    private static final int IS_END = 1000;

    private static final int MOST_TAPE = 540;
    private static final int FED_AT_ONCE = 20;
    private static final int MOST_TEXT = 500;
    private static final int MOST_THINGS = 14;
    private static final int MOST_PARTS = 6;
    private static final int MOST_SMALL = 8;
    private static final int MOST_COOKS = 4;
    private static final int MOST_PLAN = 60;

    private static final int MADE_IN = 1;
    private static final int WASH_AS_MADE = 2;
    private static final int JUST_WISHED = 4;
    private static final int ALL_WAYS = 7;

    private final byte[] tape = new byte[MOST_TAPE];
    private int tapeLength;
    private Net kitchen = new Net();
    private Net draft = new Net();
    private final Reader reader = new Reader();
    private final Plan planned;
    private final Reach reach;
    private final Shortest shortest;
    private final Cheapest cheapest;
    private final Orders orders;
    private final Small small;

    public FewBowls() {
        Desk desk = new Desk();
        Acts table = new Acts();
        planned = new Plan(desk, table);
        reach = new Reach(desk, table);
        shortest = new Shortest(desk, table);
        cheapest = new Cheapest(desk, table);
        orders = new Orders(desk);
        small = new Small(desk);
    }

    public int feed(int a, int b, int c, int d, int e) {
        if (tapeLength > MOST_TAPE - FED_AT_ONCE) {
            return NONE;
        }
        put(a);
        put(b);
        put(c);
        put(d);
        put(e);
        return tapeLength;
    }

    private void put(int number) {
        for (int shift = 24; shift >= 0 && tapeLength < MOST_TAPE; shift -= 8) {
            tape[tapeLength] = (byte) (number >> shift);
            tapeLength++;
        }
    }

    public boolean end(int n) {
        if (n < 0 || n > tapeLength) {
            return false;
        }
        tapeLength = n;
        return true;
    }

    public int net() {
        boolean good = reader.readNet(tape, takeTape(), draft);
        if (!good) {
            return -1 - reader.place;
        }
        Net old = kitchen;
        kitchen = draft;
        draft = old;
        reach.forget();
        return kitchen.things;
    }

    private int takeTape() {
        int length = tapeLength;
        tapeLength = 0;
        return length;
    }

    public int fault() {
        return reader.kind;
    }

    public int thing(int k, int what) throws NoSuchElementException {
        if (!kitchen.has(k)) {
            throw new NoSuchElementException("no such THING");
        }
        switch (what) {
            case 0:
                return kitchen.price[k];
            case 1:
                return bit(kitchen.raw, k);
            case 2:
                return bit(kitchen.wished, k);
            case 3:
                return bit(kitchen.needed, k);
            case 4:
                return kitchen.parts[k];
            case 5:
                return kitchen.below[k];
            default:
                throw new NoSuchElementException("no such what");
        }
    }

    public int branch(int k, boolean inPlace) {
        if (!kitchen.has(k)) {
            return NONE;
        }
        return inPlace ? kitchen.branchInPlace[k] : kitchen.branchApart[k];
    }

    public int tree(int k, int what) throws NoSuchElementException {
        if (!kitchen.has(k) || what < 0 || what > 1) {
            throw new NoSuchElementException("no such THING or what");
        }
        return what == 0 ? kitchen.copies[k] : kitchen.depth[k];
    }

    public int fewest(int ways) {
        return told(ways) ? reach.leastBowls(kitchen, kitchen.wished, ways) : NONE;
    }

    public int acts(int ways, int b) {
        return told(ways, b) ? shortest.search(kitchen, ways, b) : NOT_AS_TOLD;
    }

    public int actAt(int i) {
        return i >= 0 && i < shortest.length ? shortest.row[i] : NONE;
    }

    public long rows() {
        return shortest.many;
    }

    public int times(int k, int ways, int b) {
        if (!told(ways, b) || !kitchen.has(k)) {
            return NOT_AS_TOLD;
        }
        return cheapest.search(kitchen, ways, b, k);
    }

    public int alone(int k, int ways) {
        if (!told(ways) || !kitchen.has(k)) {
            return NONE;
        }
        return reach.leastBowls(kitchen, 1 << k, ways);
    }

    public int cost(int ways, int b) {
        return told(ways, b) ? cheapest.search(kitchen, ways, b, NONE) : NOT_AS_TOLD;
    }

    public int reached(int ways, int b) {
        return told(ways, b) ? reach.setsWith(kitchen, ways, b) : NONE;
    }

    public int canBe(int ways, int b, int full) {
        if (!told(ways, b) || full < 0 || full >= kitchen.sets()) {
            return NONE;
        }
        return reach.canFill(kitchen, ways, b, full) ? 1 : 0;
    }

    public int once(int ways) {
        return toldForOnce(ways) ? orders.search(kitchen, ways) : NONE;
    }

    public long onceMany() {
        return orders.many;
    }

    public int onceAt(int i) {
        return i >= 0 && i < orders.length ? orders.first[i] : NONE;
    }

    public int order(int ways) {
        int length = takeTape();
        return toldForOnce(ways) ? orders.bowlsOf(kitchen, ways, tape, length) : NONE;
    }

    public int carry(int b) {
        return toldForSmall(b) ? small.fewestCarryings(kitchen, b) : NOT_AS_TOLD;
    }

    public int cooks(int k, int b) {
        if (!toldForSmall(b) || k < 1 || k > MOST_COOKS) {
            return NOT_AS_TOLD;
        }
        return small.fewestHours(kitchen, k, b);
    }

    public int promised() {
        return toldForSmall(1) ? small.leastWithPromises(kitchen) : NONE;
    }

    public int ready(int ways) {
        return told(ways) ? reach.bestBought(kitchen, ways) : NONE;
    }

    public int plan() {
        boolean good = reader.readPlan(tape, takeTape(), kitchen);
        if (!good) {
            return -1 - reader.place;
        }
        planned.keep(reader.planActs, reader.planLength);
        return planned.length;
    }

    public int planAt(int i) {
        return i >= 0 && i < planned.length ? planned.numbers[i] : NONE;
    }

    public int judge(int ways, int b) {
        return told(ways, b) ? planned.weigh(kitchen, ways, b) : NOT_JUDGED;
    }

    public int judged(int what) {
        switch (what) {
            case 0:
                return planned.mostFull;
            case 1:
                return planned.spent;
            default:
                return NONE;
        }
    }

    public int spare(int ways, int b) {
        return told(ways, b) ? planned.thinOut(kitchen, ways, b) : NOT_AS_TOLD;
    }

    public int spareAt(int i) {
        return i >= 0 && i < planned.keptLength ? planned.kept[i] : NONE;
    }

    public int count(int what) {
        switch (what) {
            case 0:
                return kitchen.things;
            case 1:
                return planned.length;
            case 2:
                return tapeLength;
            default:
                return NONE;
        }
    }

    private boolean told(int ways) {
        return kitchen.things > 0 && ways >= 0 && ways <= ALL_WAYS;
    }

    private boolean told(int ways, int bowls) {
        return told(ways) && bowls >= 1 && bowls <= MOST_THINGS;
    }

    private boolean toldForOnce(int ways) {
        return kitchen.things > 0 && (ways == 0 || ways == MADE_IN);
    }

    private boolean toldForSmall(int bowls) {
        return kitchen.things > 0 && kitchen.things <= MOST_SMALL && bowls >= 1 && bowls <= MOST_SMALL;
    }

    private static int bit(int set, int k) {
        return set >> k & 1;
    }

    private static boolean holds(int set, int all) {
        return (set & all) == all;
    }

    private static boolean isEnd(int full, int wished, int ways) {
        return (ways & JUST_WISHED) != 0 ? full == wished : holds(full, wished);
    }

    /** Reads a text TOKEN by TOKEN; a WORD's value has its letters for digits, so six fit in an int. */
    private static final class Tokens {
        static final int RAW = 0;
        static final int MAKE = 1;
        static final int OF = 2;
        static final int COSTS = 3;
        static final int WISH = 4;
        static final int WASH = 5;
        static final int IN = 6;
        static final int NAME = 7;
        static final int NUMBER = 8;
        static final int SEMICOLON = 9;
        static final int END = 10;
        static final int BAD = 11;

        private static final int MOST_LETTERS = 6;
        private static final int MOST_DIGITS = 2;
        private static final int BASE = 27;
        // So that no letter counts as nothing, and a WORD is no other with letters put ahead.
        private static final int BEFORE_A = 'a' - 1;

        // Stands in the order of the kinds above.
        private final int[] kept = {
            spell("raw"), spell("make"), spell("of"), spell("costs"), spell("wish"), spell("wash"), spell("in")
        };
        private byte[] bytes = new byte[0];
        private int length;
        private int at;
        int kind = END;
        int place;
        int value;

        void start(byte[] text, int textLength) {
            bytes = text;
            length = Math.min(textLength, text.length);
            at = 0;
        }

        boolean tooLong() {
            return length > MOST_TEXT;
        }

        void advance() {
            int limit = Math.min(length, MOST_TEXT);
            while (at < limit && isBlank(bytes[at])) {
                at++;
            }
            if (at >= limit) {
                kind = END;
                place = limit;
                return;
            }
            place = at;
            if (bytes[at] == ';') {
                kind = SEMICOLON;
                at++;
            } else if (isLetter(bytes[at]) || isDigit(bytes[at])) {
                readRun();
            } else {
                kind = BAD;
            }
        }

        private void readRun() {
            int letters = 0;
            int digits = 0;
            while (at < length && (isLetter(bytes[at]) || isDigit(bytes[at]))) {
                if (isLetter(bytes[at])) {
                    letters++;
                } else {
                    digits++;
                }
                at++;
            }
            if (digits == 0 && letters <= MOST_LETTERS) {
                value = wordValue();
                kind = kindOf(value);
            } else if (letters == 0 && digits <= MOST_DIGITS) {
                value = numberValue();
                kind = NUMBER;
            } else {
                kind = BAD;
            }
        }

        private int wordValue() {
            int word = 0;
            for (int i = place; i < at; i++) {
                word = word * BASE + bytes[i] - BEFORE_A;
            }
            return word;
        }

        private int numberValue() {
            int number = 0;
            for (int i = place; i < at; i++) {
                number = number * 10 + (bytes[i] - '0');
            }
            return number;
        }

        private int kindOf(int word) {
            for (int i = 0; i < kept.length; i++) {
                if (kept[i] == word) {
                    return i;
                }
            }
            return NAME;
        }

        private static int spell(String word) {
            int value = 0;
            for (int i = 0; i < word.length(); i++) {
                value = value * BASE + word.charAt(i) - BEFORE_A;
            }
            return value;
        }

        private static boolean isBlank(int sign) {
            return sign == ' ' || sign == '\n';
        }

        private static boolean isLetter(int sign) {
            return sign >= 'a' && sign <= 'z';
        }

        private static boolean isDigit(int sign) {
            return sign >= '0' && sign <= '9';
        }
    }

    /** Reads the tape as a NET or a PLAN into a draft, up to the first FAULT. */
    private static final class Reader {
        private static final int CANT_COME = 1;
        private static final int WRONG_NAME = 3;
        private static final int TOO_MANY = 4;

        private final Tokens tokens = new Tokens();
        final int[] planActs = new int[MOST_PLAN];
        int planLength;
        int kind;
        int place;

        private boolean fail(int faultKind) {
            kind = faultKind;
            place = tokens.place;
            return false;
        }

        private int refuse(int faultKind) {
            fail(faultKind);
            return NONE;
        }

        private void begin(byte[] text, int length) {
            kind = 0;
            place = 0;
            tokens.start(text, length);
        }

        boolean readNet(byte[] text, int length, Net draft) {
            begin(text, length);
            draft.clear();
            // No LINE is without a byte, so there are never more of them than bytes.
            for (int line = 0; line <= MOST_TEXT; line++) {
                tokens.advance();
                if (tokens.kind == Tokens.END) {
                    return tokens.tooLong() || draft.wished == 0 ? fail(CANT_COME) : draft.finish();
                }
                if (!readLine(draft)) {
                    return false;
                }
            }
            return fail(CANT_COME);
        }

        private boolean readLine(Net draft) {
            int first = tokens.kind;
            if (first == Tokens.WISH) {
                return readWish(draft);
            }
            if (first != Tokens.RAW && first != Tokens.MAKE) {
                return fail(CANT_COME);
            }
            if (draft.things >= MOST_THINGS) {
                return fail(TOO_MANY);
            }
            tokens.advance();
            if (tokens.kind != Tokens.NAME) {
                return fail(CANT_COME);
            }
            int name = tokens.value;
            if (draft.find(name) >= 0) {
                return fail(WRONG_NAME);
            }
            tokens.advance();
            int parts = first == Tokens.MAKE ? readParts(draft) : 0;
            if (parts < 0) {
                return false;
            }
            int price = readPrice();
            if (price < 0) {
                return false;
            }
            draft.add(name, parts, price);
            return true;
        }

        private int readParts(Net draft) {
            if (tokens.kind != Tokens.OF) {
                return refuse(CANT_COME);
            }
            int parts = 0;
            tokens.advance();
            for (int i = 0; i <= MOST_PARTS && tokens.kind == Tokens.NAME; i++) {
                int k = draft.find(tokens.value);
                if (k < 0 || bit(parts, k) == 1) {
                    return refuse(WRONG_NAME);
                }
                if (i == MOST_PARTS) {
                    return refuse(TOO_MANY);
                }
                parts |= 1 << k;
                tokens.advance();
            }
            if (parts == 0) {
                return refuse(CANT_COME);
            }
            return parts;
        }

        private int readPrice() {
            int price = 1;
            if (tokens.kind == Tokens.COSTS) {
                tokens.advance();
                if (tokens.kind != Tokens.NUMBER) {
                    return refuse(CANT_COME);
                }
                price = tokens.value;
                tokens.advance();
            }
            if (tokens.kind != Tokens.SEMICOLON) {
                return refuse(CANT_COME);
            }
            return price;
        }

        private boolean readWish(Net draft) {
            tokens.advance();
            int names = 0;
            for (int i = 0; i <= MOST_THINGS && tokens.kind == Tokens.NAME; i++) {
                int k = draft.find(tokens.value);
                if (k < 0 || bit(draft.wished, k) == 1) {
                    return fail(WRONG_NAME);
                }
                draft.wished |= 1 << k;
                names++;
                tokens.advance();
            }
            return names > 0 && tokens.kind == Tokens.SEMICOLON || fail(CANT_COME);
        }

        boolean readPlan(byte[] text, int length, Net net) {
            begin(text, length);
            planLength = 0;
            for (int line = 0; line <= MOST_TEXT; line++) {
                tokens.advance();
                if (tokens.kind == Tokens.END) {
                    return !tokens.tooLong() || fail(CANT_COME);
                }
                if (!readAct(net)) {
                    return false;
                }
            }
            return fail(CANT_COME);
        }

        private boolean readAct(Net net) {
            int first = tokens.kind;
            if (first != Tokens.MAKE && first != Tokens.WASH) {
                return fail(CANT_COME);
            }
            if (planLength >= MOST_PLAN) {
                return fail(TOO_MANY);
            }
            int x = readThing(net);
            if (x < 0) {
                return false;
            }
            int number = first == Tokens.WASH ? Acts.WASH + x : x;
            if (first == Tokens.MAKE && tokens.kind == Tokens.IN) {
                int y = readThing(net);
                if (y < 0) {
                    return false;
                }
                number = Acts.numberOfMadeIn(x, y);
            }
            if (tokens.kind != Tokens.SEMICOLON) {
                return fail(CANT_COME);
            }
            planActs[planLength] = number;
            planLength++;
            return true;
        }

        private int readThing(Net net) {
            tokens.advance();
            if (tokens.kind != Tokens.NAME) {
                return refuse(CANT_COME);
            }
            int k = net.find(tokens.value);
            if (k < 0) {
                return refuse(WRONG_NAME);
            }
            tokens.advance();
            return k;
        }
    }

    /** The THINGS, what they are made of, and all that follows from that without any search. */
    private static final class Net {
        int things;
        int raw;
        int wished;
        int needed;
        private final int[] names = new int[MOST_THINGS];
        final int[] price = new int[MOST_THINGS];
        final int[] parts = new int[MOST_THINGS];
        final int[] below = new int[MOST_THINGS];
        /** Of each THING the NEEDED ones that are made of it. */
        final int[] users = new int[MOST_THINGS];
        final int[] branchApart = new int[MOST_THINGS];
        final int[] branchInPlace = new int[MOST_THINGS];
        final int[] copies = new int[MOST_THINGS];
        final int[] depth = new int[MOST_THINGS];
        private final int[] falling = new int[MOST_PARTS];

        void clear() {
            things = 0;
            raw = 0;
            wished = 0;
            needed = 0;
        }

        boolean has(int k) {
            return k >= 0 && k < things;
        }

        /** How many sets of THINGS there are. */
        int sets() {
            return 1 << things;
        }

        int find(int name) {
            for (int k = 0; k < things; k++) {
                if (names[k] == name) {
                    return k;
                }
            }
            return NONE;
        }

        void add(int name, int madeOf, int costs) {
            if (things >= MOST_THINGS) {
                return;
            }
            names[things] = name;
            parts[things] = madeOf;
            price[things] = costs;
            if (madeOf == 0) {
                raw |= 1 << things;
            }
            things++;
        }

        boolean finish() {
            needed = 0;
            for (int k = 0; k < things; k++) {
                growTree(k);
                branchApart[k] = branchOf(k, branchApart, Integer.bitCount(parts[k]) + 1);
                branchInPlace[k] = branchOf(k, branchInPlace, 1);
                if (bit(wished, k) == 1) {
                    needed |= below[k];
                }
            }
            findUsers();
            return true;
        }

        private void growTree(int k) {
            below[k] = 1 << k;
            copies[k] = 1;
            depth[k] = 0;
            for (int p = 0; p < k; p++) {
                if (bit(parts[k], p) == 1) {
                    below[k] |= below[p];
                    copies[k] += copies[p];
                    depth[k] = Math.max(depth[k], depth[p] + 1);
                }
            }
        }

        private int branchOf(int k, int[] branches, int least) {
            int sorted = 0;
            for (int p = 0; p < k; p++) {
                if (bit(parts[k], p) == 1 && sorted < MOST_PARTS) {
                    insertFalling(branches[p], sorted);
                    sorted++;
                }
            }
            int most = sorted == 0 ? 1 : least;
            for (int i = 0; i < sorted; i++) {
                most = Math.max(most, falling[i] + i);
            }
            return most;
        }

        private void insertFalling(int branch, int sorted) {
            int i = sorted;
            while (i > 0 && falling[i - 1] < branch) {
                falling[i] = falling[i - 1];
                i--;
            }
            falling[i] = branch;
        }

        private void findUsers() {
            for (int k = 0; k < things; k++) {
                users[k] = 0;
                for (int u = k + 1; u < things; u++) {
                    if (bit(parts[u], k) == 1 && bit(needed, u) == 1) {
                        users[k] |= 1 << u;
                    }
                }
            }
        }
    }

    /** Rows of numbers that all searches share, made as long as the longest search so far needs. */
    private static final class Desk {
        private int[] first = new int[0];
        private int[] second = new int[0];
        private int[] third = new int[0];
        private long[] wide = new long[0];

        int[] firstRow(int size) {
            if (first.length < size) {
                first = new int[size];
            }
            return first;
        }

        int[] secondRow(int size) {
            if (second.length < size) {
                second = new int[size];
            }
            return second;
        }

        int[] thirdRow(int size) {
            if (third.length < size) {
                third = new int[size];
            }
            return third;
        }

        long[] wideRow(int size) {
            if (wide.length < size) {
                wide = new long[size];
            }
            return wide;
        }
    }

    /** All ACTS that a NET has by WAYS, by rising number, each as what it asks of FULL and does to it. */
    private static final class Acts {
        static final int WASH = 20;
        private static final int MOST_ACTS = MOST_THINGS * (2 + MOST_PARTS);

        int size;
        private int sets;
        final int[] number = new int[MOST_ACTS];
        /** The THING that is made, or NONE. */
        final int[] made = new int[MOST_ACTS];
        private final int[] need = new int[MOST_ACTS];
        private final int[] gain = new int[MOST_ACTS];
        private final int[] loss = new int[MOST_ACTS];

        static int numberOfMadeIn(int x, int y) {
            return 100 + 20 * x + y;
        }

        /** One THING, bought, is taken as RAW (NONE: none is). */
        void build(Net net, int ways, int bought) {
            size = 0;
            sets = net.sets();
            for (int x = 0; x < net.things; x++) {
                enter(x, x, partsOf(net, x, bought), 1 << x, 0);
            }
            for (int x = 0; x < net.things; x++) {
                enter(WASH + x, NONE, 1 << x | toWash(net, ways, x, bought), 0, 1 << x);
            }
            if ((ways & MADE_IN) == 0) {
                return;
            }
            for (int x = 0; x < net.things; x++) {
                int parts = partsOf(net, x, bought);
                for (int y = 0; y < x; y++) {
                    if (bit(parts, y) == 1) {
                        enter(numberOfMadeIn(x, y), x, parts | toWash(net, ways, y, bought), 1 << x, 1 << y);
                    }
                }
            }
        }

        private static int partsOf(Net net, int x, int bought) {
            return x == bought ? 0 : net.parts[x];
        }

        private static int toWash(Net net, int ways, int x, int bought) {
            return (ways & WASH_AS_MADE) != 0 ? partsOf(net, x, bought) : 0;
        }

        private void enter(int actNumber, int thingMade, int needs, int gains, int loses) {
            if (size >= MOST_ACTS) {
                return;
            }
            number[size] = actNumber;
            made[size] = thingMade;
            need[size] = needs;
            gain[size] = gains;
            loss[size] = loses;
            size++;
        }

        int find(int actNumber) {
            for (int act = 0; act < size; act++) {
                if (number[act] == actNumber) {
                    return act;
                }
            }
            return NONE;
        }

        /** What is FULL behind the act; NONE: it is not LET. */
        int after(int act, int full, int bowls) {
            if ((full & (need[act] | gain[act])) != need[act]) {
                return NONE;
            }
            int next = (full | gain[act]) & ~loss[act];
            return next < sets && Integer.bitCount(next) <= bowls ? next : NONE;
        }

        /** What was FULL ahead of the act, if this is FULL behind it; NONE: nothing that lets it. */
        int before(int act, int next, int bowls) {
            if ((next & (gain[act] | loss[act])) != gain[act]) {
                return NONE;
            }
            int full = (next & ~gain[act]) | loss[act];
            return full < sets && holds(full, need[act]) && Integer.bitCount(full) <= bowls ? full : NONE;
        }
    }

    /** For each set of THINGS the least B with which it can be FULL: its level. */
    private static final class Reach {
        private static final int UNSEEN = 99;

        private final Desk desk;
        private final Acts table;
        private byte[] level = new byte[0];
        private int[] queue = new int[0];
        private int queued;
        private int sets;
        /** The WAYS that the levels are for; NONE: they are for no NET that is. */
        private int levelWays = NONE;
        /** Levels up to this B are known; the higher ones are looked for only when they are asked for. */
        private int known;

        Reach(Desk sharedDesk, Acts sharedTable) {
            desk = sharedDesk;
            table = sharedTable;
        }

        void forget() {
            levelWays = NONE;
        }

        int leastBowls(Net net, int wished, int ways) {
            turnTo(net, ways);
            return firstEnd(wished, ways, net.things);
        }

        int setsWith(Net net, int ways, int bowls) {
            turnTo(net, ways);
            widenTo(Math.min(bowls, net.things));
            int reached = 0;
            for (int full = 0; full < sets; full++) {
                if (level[full] <= bowls) {
                    reached++;
                }
            }
            return reached;
        }

        boolean canFill(Net net, int ways, int bowls, int full) {
            turnTo(net, ways);
            widenTo(Math.min(bowls, net.things));
            return full >= 0 && full < sets && level[full] <= bowls;
        }

        /** The THING that had best be RAW; only what beats the best so far is looked for. */
        int bestBought(Net net, int ways) {
            turnTo(net, ways);
            int least = firstEnd(net.wished, ways, net.things);
            int best = NONE;
            for (int k = 0; k < net.things; k++) {
                if (bit(net.raw, k) == 0) {
                    table.build(net, ways, k);
                    open(net);
                    int bowls = firstEnd(net.wished, ways, least - 1);
                    if (bowls > 0) {
                        least = bowls;
                        best = k;
                    }
                }
            }
            forget();
            return best;
        }

        private void turnTo(Net net, int ways) {
            int actWays = ways & (MADE_IN | WASH_AS_MADE);
            table.build(net, actWays, NONE);
            if (levelWays != actWays) {
                open(net);
                levelWays = actWays;
            }
        }

        private void open(Net net) {
            sets = net.sets();
            if (level.length < sets) {
                level = new byte[sets];
            }
            for (int full = 1; full < sets; full++) {
                level[full] = UNSEEN;
            }
            level[0] = 0;
            known = 0;
        }

        private int firstEnd(int wished, int ways, int most) {
            // With fewer BOWLS than are WISHED there is no END.
            for (int bowls = Integer.bitCount(wished); bowls <= most; bowls++) {
                widenTo(bowls);
                for (int full = wished; full < sets; full++) {
                    if (level[full] <= bowls && isEnd(full, wished, ways)) {
                        return bowls;
                    }
                }
            }
            return NONE;
        }

        private void widenTo(int most) {
            for (int bowls = known + 1; bowls <= most; bowls++) {
                widen(bowls);
                known = bowls;
            }
        }

        private void widen(int bowls) {
            queue = desk.firstRow(sets);
            queued = 0;
            for (int full = 0; full < sets; full++) {
                // Of those seen with fewer BOWLS only the ones that fill them all gain by one more.
                if (level[full] < bowls && Integer.bitCount(full) == bowls - 1) {
                    spread(full, bowls);
                }
            }
            for (int i = 0; i < queued && i < sets; i++) {
                spread(queue[i], bowls);
            }
        }

        private void spread(int full, int bowls) {
            for (int act = 0; act < table.size; act++) {
                int next = table.after(act, full, bowls);
                if (next >= 0 && level[next] == UNSEEN && queued < sets) {
                    level[next] = (byte) bowls;
                    queue[queued] = next;
                    queued++;
                }
            }
        }
    }

    /** LEAST ACTS and ROWS, searched from the END back to where nothing is FULL. */
    private static final class Shortest {
        private static final long MOST_ROWS = 1_000_000_000_000_000L;

        private final Desk desk;
        private final Acts table;
        private int[] queue = new int[0];
        private int[] left = new int[0];
        private long[] paths = new long[0];
        private int queued;
        int[] row = new int[0];
        int length;
        long many;

        Shortest(Desk sharedDesk, Acts sharedTable) {
            desk = sharedDesk;
            table = sharedTable;
        }

        int search(Net net, int ways, int bowls) {
            table.build(net, ways, NONE);
            int sets = net.sets();
            startAtEnds(net, ways, bowls);
            for (int i = 0; i < queued && i < sets; i++) {
                if (queue[i] == 0) {
                    break;
                }
                stepBack(queue[i], bowls);
            }
            if (left[0] < 0) {
                return NONE;
            }
            many = paths[0];
            keepFirstRow(left[0], bowls);
            return length;
        }

        private void startAtEnds(Net net, int ways, int bowls) {
            int sets = net.sets();
            queue = desk.firstRow(sets);
            left = desk.secondRow(sets);
            paths = desk.wideRow(sets);
            queued = 0;
            for (int full = 0; full < sets; full++) {
                left[full] = NONE;
                if (isEnd(full, net.wished, ways) && Integer.bitCount(full) <= bowls) {
                    enqueue(full, 0, 1);
                }
            }
        }

        private void enqueue(int full, int actsLeft, long pathsLeft) {
            if (queued >= queue.length) {
                return;
            }
            left[full] = actsLeft;
            paths[full] = pathsLeft;
            queue[queued] = full;
            queued++;
        }

        private void stepBack(int next, int bowls) {
            int actsLeft = left[next] + 1;
            for (int act = 0; act < table.size; act++) {
                int full = table.before(act, next, bowls);
                if (full < 0) {
                    continue;
                }
                if (left[full] < 0) {
                    enqueue(full, actsLeft, paths[next]);
                } else if (left[full] == actsLeft) {
                    paths[full] = Math.min(MOST_ROWS, paths[full] + paths[next]);
                }
            }
        }

        private void keepFirstRow(int actsLeft, int bowls) {
            if (row.length < actsLeft) {
                row = new int[Math.max(actsLeft, 2 * row.length)];
            }
            length = actsLeft;
            int full = 0;
            for (int i = 0; i < length; i++) {
                int act = firstActTo(full, length - i - 1, bowls);
                if (act < 0) {
                    return;
                }
                row[i] = table.number[act];
                full = table.after(act, full, bowls);
            }
        }

        private int firstActTo(int full, int actsLeft, int bowls) {
            for (int act = 0; act < table.size; act++) {
                int next = table.after(act, full, bowls);
                if (next >= 0 && left[next] == actsLeft) {
                    return act;
                }
            }
            return NONE;
        }
    }

    /** COST and TIMES: sets with like sums hang in lanes, and the least sum is taken first. */
    private static final class Cheapest {
        // One more than the dearest act, so that sums in different lanes never meet.
        private static final int LANES = 100;

        private final Desk desk;
        private final Acts table;
        private final int[] heads = new int[LANES];
        private int lane;
        private int[] sum = new int[0];
        private int[] behind = new int[0];
        private int[] ahead = new int[0];

        Cheapest(Desk sharedDesk, Acts sharedTable) {
            desk = sharedDesk;
            table = sharedTable;
        }

        /** The least sum of costs; if only is a THING, of how many times it is made. */
        int search(Net net, int ways, int bowls, int only) {
            table.build(net, ways, NONE);
            int sets = net.sets();
            open(sets);
            hang(0, 0);
            for (int taken = 0; taken < sets; taken++) {
                int full = takeLeast();
                if (full < 0) {
                    return NONE;
                }
                if (isEnd(full, net.wished, ways)) {
                    return sum[full];
                }
                spread(net, full, bowls, only);
            }
            return NONE;
        }

        private void open(int sets) {
            sum = desk.firstRow(sets);
            behind = desk.secondRow(sets);
            ahead = desk.thirdRow(sets);
            for (int full = 0; full < sets; full++) {
                sum[full] = NONE;
            }
            for (int i = 0; i < LANES; i++) {
                heads[i] = NONE;
            }
            lane = 0;
        }

        private void spread(Net net, int full, int bowls, int only) {
            for (int act = 0; act < table.size; act++) {
                int next = table.after(act, full, bowls);
                if (next < 0) {
                    continue;
                }
                int nextSum = sum[full] + priceOf(net, table.made[act], only);
                if (sum[next] < 0) {
                    hang(next, nextSum);
                } else if (nextSum < sum[next]) {
                    takeOff(next);
                    hang(next, nextSum);
                }
            }
        }

        private static int priceOf(Net net, int made, int only) {
            if (made < 0 || made >= net.things) {
                return 0;
            }
            if (only < 0) {
                return net.price[made];
            }
            return made == only ? 1 : 0;
        }

        private int takeLeast() {
            for (int step = 0; step < LANES; step++) {
                int at = (lane + step) % LANES;
                if (heads[at] >= 0) {
                    lane = at;
                    int full = heads[at];
                    takeOff(full);
                    return full;
                }
            }
            return NONE;
        }

        private void hang(int full, int newSum) {
            int at = newSum % LANES;
            sum[full] = newSum;
            ahead[full] = NONE;
            behind[full] = heads[at];
            if (heads[at] >= 0) {
                ahead[heads[at]] = full;
            }
            heads[at] = full;
        }

        private void takeOff(int full) {
            if (ahead[full] >= 0) {
                behind[ahead[full]] = behind[full];
            } else {
                heads[sum[full] % LANES] = behind[full];
            }
            if (behind[full] >= 0) {
                ahead[behind[full]] = ahead[full];
            }
        }
    }

    /** The PLAN, how it was judged, and what was kept of it. */
    private static final class Plan {
        private static final int FAR = 1000;

        private final Desk desk;
        private final Acts table;
        final int[] numbers = new int[MOST_PLAN];
        int length;
        int mostFull = NONE;
        int spent = NONE;
        final int[] kept = new int[MOST_PLAN];
        int keptLength;
        private int[] left = new int[0];
        /** Of each set, as bits, the places in the PLAN whose ACT is best kept there. */
        private long[] keeps = new long[0];

        Plan(Desk sharedDesk, Acts sharedTable) {
            desk = sharedDesk;
            table = sharedTable;
        }

        void keep(int[] newNumbers, int newLength) {
            length = Math.min(newLength, Math.min(newNumbers.length, MOST_PLAN));
            for (int i = 0; i < length; i++) {
                numbers[i] = newNumbers[i];
            }
        }

        int weigh(Net net, int ways, int bowls) {
            table.build(net, ways, NONE);
            mostFull = 0;
            spent = 0;
            int full = 0;
            for (int i = 0; i < length; i++) {
                int act = table.find(numbers[i]);
                int next = act < 0 ? NONE : table.after(act, full, bowls);
                if (next < 0) {
                    return i;
                }
                full = next;
                mostFull = Math.max(mostFull, Integer.bitCount(full));
                if (net.has(table.made[act])) {
                    spent += net.price[table.made[act]];
                }
            }
            return isEnd(full, net.wished, ways) ? IS_END + length : -1 - length;
        }

        int thinOut(Net net, int ways, int bowls) {
            table.build(net, ways, NONE);
            int sets = net.sets();
            left = desk.firstRow(sets);
            keeps = desk.wideRow(sets);
            for (int full = 0; full < sets; full++) {
                left[full] = isEnd(full, net.wished, ways) ? 0 : FAR;
                keeps[full] = 0;
            }
            for (int i = length - 1; i >= 0; i--) {
                int act = table.find(numbers[i]);
                if (act >= 0) {
                    weighKeeping(i, act, sets, bowls);
                }
            }
            if (left[0] >= FAR) {
                return NONE;
            }
            follow(bowls);
            return keptLength;
        }

        /** No set that an act leads to lets that act again, so one row of sets serves all places. */
        private void weighKeeping(int place, int act, int sets, int bowls) {
            for (int full = 0; full < sets; full++) {
                int next = table.after(act, full, bowls);
                if (next >= 0 && left[next] < FAR && left[next] < left[full]) {
                    left[full] = left[next] + 1;
                    keeps[full] |= 1L << place;
                }
            }
        }

        private void follow(int bowls) {
            keptLength = 0;
            int full = 0;
            for (int i = 0; i < length; i++) {
                int act = (keeps[full] >> i & 1) == 1 ? table.find(numbers[i]) : NONE;
                int next = act < 0 ? NONE : table.after(act, full, bowls);
                if (next >= 0) {
                    kept[keptLength] = i;
                    keptLength++;
                    full = next;
                }
            }
        }
    }

    /** ORDERS in which each NEEDED THING is made once, searched over the sets of those made. */
    private static final class Orders {
        private static final int FAR = 99;

        private final Desk desk;
        private int[] least = new int[0];
        private long[] paths = new long[0];
        /** Of the set looked at: how many of those made are not washed yet. */
        private int held;
        /** Of the set looked at: those that are washed as soon as one more is made of them. */
        private int lastUse;
        final int[] first = new int[MOST_THINGS];
        int length;
        long many;

        Orders(Desk sharedDesk) {
            desk = sharedDesk;
        }

        int search(Net net, int ways) {
            // As long as the other searches ask for, so that rows are seldom made anew.
            least = desk.firstRow(net.sets());
            paths = desk.wideRow(net.sets());
            for (int made = net.needed; made >= 0; made--) {
                least[made] = isDownSet(net, made) ? leastFrom(net, ways, made) : FAR;
            }
            int best = least[0];
            for (int made = net.needed; made >= 0; made--) {
                paths[made] = least[made] <= best ? pathsFrom(net, ways, made, best) : 0;
            }
            many = paths[0];
            keepFirst(net, ways, best);
            return best;
        }

        private static boolean isDownSet(Net net, int made) {
            if (!holds(net.needed, made)) {
                return false;
            }
            for (int x = 0; x < net.things; x++) {
                if (bit(made, x) == 1 && !holds(made, net.parts[x])) {
                    return false;
                }
            }
            return true;
        }

        private int leastFrom(Net net, int ways, int made) {
            if (made == net.needed) {
                return 0;
            }
            lookAt(net, made);
            int best = FAR;
            for (int x = 0; x < net.things; x++) {
                if (mayCome(net, made, x)) {
                    best = Math.min(best, Math.max(peak(net, ways, x), least[made | 1 << x]));
                }
            }
            return best;
        }

        private long pathsFrom(Net net, int ways, int made, int best) {
            if (made == net.needed) {
                return 1;
            }
            lookAt(net, made);
            long sum = 0;
            for (int x = 0; x < net.things; x++) {
                if (mayCome(net, made, x) && peak(net, ways, x) <= best) {
                    sum += paths[made | 1 << x];
                }
            }
            return sum;
        }

        private void keepFirst(Net net, int ways, int best) {
            length = Integer.bitCount(net.needed);
            int made = 0;
            for (int i = 0; i < length; i++) {
                int x = firstFrom(net, ways, made, best);
                if (x < 0) {
                    return;
                }
                first[i] = x;
                made |= 1 << x;
            }
        }

        private int firstFrom(Net net, int ways, int made, int best) {
            lookAt(net, made);
            for (int x = 0; x < net.things; x++) {
                if (mayCome(net, made, x) && peak(net, ways, x) <= best && paths[made | 1 << x] > 0) {
                    return x;
                }
            }
            return NONE;
        }

        int bowlsOf(Net net, int ways, byte[] order, int orderLength) {
            if (orderLength != Integer.bitCount(net.needed) || orderLength > order.length) {
                return NONE;
            }
            int made = 0;
            int most = 0;
            for (int i = 0; i < orderLength; i++) {
                int x = order[i];
                if (!net.has(x) || !mayCome(net, made, x)) {
                    return NONE;
                }
                lookAt(net, made);
                most = Math.max(most, peak(net, ways, x));
                made |= 1 << x;
            }
            return most;
        }

        private static boolean mayCome(Net net, int made, int x) {
            return bit(net.needed & ~made, x) == 1 && holds(made, net.parts[x]);
        }

        private void lookAt(Net net, int made) {
            held = 0;
            lastUse = 0;
            for (int x = 0; x < net.things; x++) {
                if (bit(made, x) == 0) {
                    continue;
                }
                int usesLeft = Integer.bitCount(net.users[x] & ~made);
                if (bit(net.wished, x) == 1) {
                    held++;
                } else if (usesLeft > 0) {
                    held++;
                    lastUse |= usesLeft == 1 ? 1 << x : 0;
                }
            }
        }

        /** How many are FULL while x is made, the set looked at being made. */
        private int peak(Net net, int ways, int x) {
            return ways == MADE_IN && (net.parts[x] & lastUse) != 0 ? held : held + 1;
        }
    }

    /** CELLAR, COOKS and PROMISED: of 8 THINGS at most, so two sets fit in 16 bits. */
    private static final class Small {
        private static final int SHIFT = MOST_SMALL;
        private static final int LOW = (1 << SHIFT) - 1;
        private static final int WORDS = 1 << (2 * SHIFT - 5);

        private final Desk desk;
        private int[] queue = new int[0];
        private int[] marks = new int[0];
        private int queued;
        private int most;

        Small(Desk sharedDesk) {
            desk = sharedDesk;
        }

        private void open(int states) {
            most = states;
            queued = 0;
            queue = desk.firstRow(states);
            marks = desk.secondRow(WORDS);
            for (int i = 0; i < WORDS; i++) {
                marks[i] = 0;
            }
        }

        private void visit(int low, int high) {
            int state = low | high << SHIFT;
            int word = state >> 5;
            if (word < 0 || word >= WORDS || queued >= most || bit(marks[word], state & 31) == 1) {
                return;
            }
            marks[word] |= 1 << (state & 31);
            queue[queued] = state;
            queued++;
        }

        /** States are the table and, high, the cellar, in which all RAW always are. */
        int fewestCarryings(Net net, int bowls) {
            open(1 << (2 * net.things - Integer.bitCount(net.raw)));
            visit(0, net.raw);
            int from = 0;
            for (int carried = 0; carried < most && from < queued; carried++) {
                for (int i = from; i < queued && i < most; i++) {
                    makeAndWash(net, queue[i] & LOW, queue[i] >> SHIFT, bowls);
                }
                int until = queued;
                for (int i = from; i < until; i++) {
                    if (holds(queue[i] >> SHIFT, net.wished)) {
                        return carried;
                    }
                    upAndDown(net, queue[i] & LOW, queue[i] >> SHIFT, bowls);
                }
                from = until;
            }
            return NONE;
        }

        private void makeAndWash(Net net, int table, int cellar, int bowls) {
            boolean room = Integer.bitCount(table) < bowls;
            for (int x = 0; x < net.things; x++) {
                if (bit(table, x) == 1) {
                    visit(table & ~(1 << x), cellar);
                } else if (room && net.parts[x] != 0 && holds(table, net.parts[x])) {
                    visit(table | 1 << x, cellar);
                }
            }
        }

        private void upAndDown(Net net, int table, int cellar, int bowls) {
            boolean room = Integer.bitCount(table) < bowls;
            for (int x = 0; x < net.things; x++) {
                if (bit(table, x) == 1) {
                    visit(table, cellar | 1 << x);
                } else if (room && bit(cellar, x) == 1) {
                    visit(table | 1 << x, cellar);
                }
            }
        }

        /** High stands 0 for what is FULL behind an HOUR, 1 for what is left FULL behind a washing. */
        int fewestHours(Net net, int cooks, int bowls) {
            open(2 * net.sets());
            visit(0, 0);
            int from = 0;
            for (int hours = 1; hours <= most && from < queued; hours++) {
                int until = queued;
                for (int i = from; i < until; i++) {
                    washAny(queue[i]);
                }
                from = queued;
                for (int i = until; i < from; i++) {
                    makeAtOnce(net, queue[i] & LOW, cooks, bowls);
                }
                for (int i = from; i < queued; i++) {
                    if (holds(queue[i], net.wished)) {
                        return hours;
                    }
                }
            }
            return NONE;
        }

        private void washAny(int full) {
            for (int rest = 0; rest <= full; rest++) {
                if (holds(full, rest)) {
                    visit(rest, 1);
                }
            }
        }

        private void makeAtOnce(Net net, int full, int cooks, int bowls) {
            int mayCome = 0;
            for (int x = 0; x < net.things; x++) {
                if (bit(full, x) == 0 && holds(full, net.parts[x])) {
                    mayCome |= 1 << x;
                }
            }
            for (int made = 1; made <= mayCome; made++) {
                if (holds(mayCome, made) && Integer.bitCount(made) <= cooks && Integer.bitCount(full | made) <= bowls) {
                    visit(full | made, 0);
                }
            }
        }

        /** States are what is FULL and, high, what is promised. */
        int leastWithPromises(Net net) {
            // Each THING is FULL, promised, or neither.
            int states = 1;
            for (int x = 0; x < net.things; x++) {
                states *= 3;
            }
            open(states);
            visit(0, 0);
            for (int bowls = 1; bowls <= net.things; bowls++) {
                int old = queued;
                for (int i = 0; i < old; i++) {
                    if (Integer.bitCount(queue[i]) == bowls - 1) {
                        keepPromises(net, queue[i] & LOW, queue[i] >> SHIFT, bowls);
                    }
                }
                for (int i = old; i < queued && i < most; i++) {
                    if (holds(queue[i], net.wished) && queue[i] <= LOW) {
                        return bowls;
                    }
                    keepPromises(net, queue[i] & LOW, queue[i] >> SHIFT, bowls);
                }
            }
            return NONE;
        }

        private void keepPromises(Net net, int full, int owed, int bowls) {
            int held = full | owed;
            boolean room = Integer.bitCount(held) < bowls;
            for (int x = 0; x < net.things; x++) {
                int one = 1 << x;
                boolean served = holds(held, net.parts[x]);
                if (bit(full, x) == 1) {
                    visit(full & ~one, owed);
                } else if (bit(owed, x) == 1) {
                    if (served) {
                        visit(full | one, owed & ~one);
                    }
                } else if (room) {
                    visit(full, owed | one);
                    if (served) {
                        visit(full | one, owed);
                    }
                }
            }
        }
    }
}
