/**
 * Promises 1 to 6, 26, 27 and 32, and the language of the NET and the PLAN: each sentence of the
 * document that names a boundary case has a test of its own, under that sentence's words.
 */
public final class EdgeTextTest {
    private static final Bench B = new Bench("EdgeTextTest");
    private static final int MIN = Integer.MIN_VALUE;
    private static final int MAX = Integer.MAX_VALUE;

    private static final String ONE = "raw a;wish a;";
    private static final String SEVEN = "raw a;raw b;raw c;raw d;raw e;raw f;raw g;";

    public static void main(String[] args) {
        tape();
        tokens();
        lines();
        faults();
        tooLong();
        netAndFault();
        thing();
        plan();
        planKept();
        count();
        B.close();
    }

    private static void tape() {
        newObject();
        the512thCall();
        feedUpTo540();
        feedHighestFirst();
        feedRefused();
        endKeepsTheFirst();
        endRefused();
    }

    private static void tokens() {
        blanks();
        wordsOfOneToSix();
        numbersOfOneOrTwo();
        goesOn();
        noToken();
        twoDigitsAreAllAsTold();
    }

    private static void lines() {
        noLine();
        madeOfOneToSix();
        wishes();
        costs();
        noNames();
        fourteenThings();
    }

    private static void faults() {
        firstAlongTheText();
        ofOneTokenTheLeast();
        atTheEnd();
        nothingWished();
        toldAlready();
        notToldAhead();
        twiceInOneOf();
        wishedAlready();
        fifteenthThing();
        seventhName();
    }

    private static void tooLong() {
        fiveHundredBytes();
        noFaultAhead();
        readWhole();
    }

    private static void plan() {
        planOf60();
        planOf61();
        planOf500Bytes();
        planCantCome();
        planNoSuchThing();
        planEmpty();
    }

    private static void fault(String text, int place, int kind) {
        FewBowls x = new FewBowls();
        B.due("net() of " + text, Bench.net(x, text), -1 - place);
        B.due("fault() of " + text, x.fault(), kind);
        B.due("THINGS behind " + text, x.count(0), 0);
    }

    private static void good(String text, int things) {
        FewBowls x = new FewBowls();
        B.due("net() of " + text, Bench.net(x, text), things);
        B.due("fault() of " + text, x.fault(), 0);
        B.due("THINGS of " + text, x.count(0), things);
    }

    private static void planFault(FewBowls x, String text, int place, int kind) {
        int acts = x.count(1);
        B.due("plan() of " + text, Bench.plan(x, text), -1 - place);
        B.due("fault() of " + text, x.fault(), kind);
        B.due("ACTS behind " + text, x.count(1), acts);
    }

    private static String raws(int many) {
        StringBuilder told = new StringBuilder();
        for (int k = 0; k < many; k++) {
            told.append("raw ").append((char) ('a' + k)).append(';');
        }
        return told.toString();
    }

    /** Blanks between the two, so that the second begins at this place. */
    private static String at(String first, int place, String second) {
        return first + " ".repeat(place - first.length()) + second;
    }

    // Promise 1

    private static void newObject() {
        B.sentence(1, "No THINGS, an empty PLAN; an empty tape");
        FewBowls x = new FewBowls();
        B.due("count(0)", x.count(0), 0);
        B.due("count(1)", x.count(1), 0);
        B.due("count(2)", x.count(2), 0);
        B.due("branch(0, false)", x.branch(0, false), -1);
        B.due("planAt(0)", x.planAt(0), -1);
        B.due("end(1)", x.end(1), false);
        B.due("feed", x.feed(1, 2, 3, 4, 5), 20);
        B.due("another is new", new FewBowls().count(2), 0);
    }

    private static void the512thCall() {
        B.sentence(1, "An object is used for at most 512 calls after it has been made");
        FewBowls x = new FewBowls();
        String fourteen = raws(13) + "make n of a b c d e f;wish n;";
        int calls = Bench.callsFor(fourteen);
        int fed = 0;
        B.due("net() of 14", Bench.net(x, fourteen), 14);
        // Dear ones, so that what they hold on to would show.
        for (; calls < 504; calls += 4) {
            B.due("acts(4, 7) behind " + calls, x.acts(4, 7), 13);
            B.due("once(0) behind " + calls, x.once(0), 7);
            B.due("reached(0, 1) behind " + calls, x.reached(0, 1), 14);
            B.due("feed behind " + calls, x.feed(calls, 0, 0, 0, 0), fed < 540 ? fed + 20 : -1);
            fed = Math.min(540, fed + 20);
        }
        for (; calls < 511; calls++) {
            B.due("cost(0, 7) behind " + calls, x.cost(0, 7), 7);
        }
        B.due("the 512th call", x.fewest(0), 7);
    }

    // Promises 2 and 3

    private static void feedUpTo540() {
        B.sentence(2, "Twenty bytes come behind the tape: how many it has");
        FewBowls x = new FewBowls();
        for (int fed = 1; fed <= 27; fed++) {
            B.due("feed " + fed, x.feed(MIN, MAX, -1, 0, 1), 20 * fed);
            B.due("count(2) of " + fed, x.count(2), 20 * fed);
        }
        x.end(520);
        B.due("feed behind 520", x.feed(0, 0, 0, 0, 0), 540);
        x.end(1);
        B.due("feed behind 1", x.feed(0, 0, 0, 0, 0), 21);
    }

    private static void feedHighestFirst() {
        B.sentence(2, "of each number the highest first");
        // 20 bytes: raw a;make b of a ;  and then wish b;
        FewBowls x = new FewBowls();
        x.feed(0x72617720, 0x613B6D61, 0x6B652062, 0x206F6620, 0x61203B20);
        x.feed(0x77697368, 0x20623B20, 0x20202020, 0x0A0A0A0A, 0x2020200A);
        B.due("net()", x.net(), 2);
        // The signs above 127 are no blanks and no letters, whichever byte of a number they are.
        for (int place = 0; place < 4; place++) {
            FewBowls y = new FewBowls();
            int number = 0x20202020 & ~(255 << 24 - 8 * place) | 0xA0 << 24 - 8 * place;
            y.feed(0x20202020, 0x20202020, 0x20202020, 0x20202020, number);
            B.due("net() with a sign above 127", y.net(), -1 - 16 - place);
        }
        FewBowls z = Bench.with("raw a;raw b;raw c;raw d;wish a b c d;");
        z.feed(0x03000102, -1, -1, -1, -1);
        z.end(4);
        B.due("order(0) of 3 0 1 2", z.order(0), 4);
    }

    private static void feedRefused() {
        B.sentence(2, "NONE, and none come, if it would have more than 540");
        FewBowls x = new FewBowls();
        Bench.tape(x, at(ONE, 540, ""));
        B.due("feed behind 540", x.feed(0, 0, 0, 0, 0), -1);
        B.due("count(2)", x.count(2), 540);
        x.end(521);
        B.due("feed behind 521", x.feed(0, 0, 0, 0, 0), -1);
        B.due("count(2) of 521", x.count(2), 521);
        x.end(500);
        B.due("net() of the first 500", x.net(), 1);
        B.due("feed behind net()", x.feed(0, 0, 0, 0, 0), 20);
    }

    private static void endKeepsTheFirst() {
        B.sentence(3, "The tape has its first n bytes alone: true");
        FewBowls x = new FewBowls();
        B.due("end(0) of none", x.end(0), true);
        Bench.tape(x, "raw a;wish a;wish a;");
        B.due("end(20) of 20", x.end(20), true);
        B.due("count(2) of 20", x.count(2), 20);
        B.due("end(13)", x.end(13), true);
        B.due("count(2) of 13", x.count(2), 13);
        B.due("net() of 13", x.net(), 1);
        Bench.tape(x, "raw b;?");
        B.due("end(0)", x.end(0), true);
        B.due("count(2) of 0", x.count(2), 0);
        Bench.tape(x, ONE);
        B.due("net() of what came behind", x.net(), 1);
    }

    private static void endRefused() {
        B.sentence(3, "false, if it has not so many, or n is below 0");
        FewBowls x = new FewBowls();
        B.due("end(1) of none", x.end(1), false);
        B.due("end(-1) of none", x.end(-1), false);
        Bench.tape(x, ONE);
        for (int n : new int[] {14, 20, 540, MAX, -1, -13, MIN}) {
            B.due("end(" + n + ") of 13", x.end(n), false);
            B.due("count(2) behind end(" + n + ")", x.count(2), 13);
        }
        B.due("net() behind those", x.net(), 1);
        x.feed(0, 0, 0, 0, 0);
        x.end(3);
        B.due("end(4) of what was cut off", x.end(4), false);
    }

    // TOKENS: promises 4 and 5

    private static void blanks() {
        B.sentence(4, "TOKENS, with blanks (32, 10) between them or not");
        good("raw a;wish a;", 1);
        good(" \n raw \n a \n\n; wish\na ;\n ", 1);
        good("\nraw\na\ncosts\n5\n;\nwish\na\n;\n", 1);
        for (char sign : new char[] {0, 9, 11, 12, 13, 31, 33, 160}) {
            fault("raw" + sign + "a;wish a;", 3, 1);
            fault("raw a;" + sign + "wish a;", 6, 1);
            fault("raw a;wish a;" + sign, 13, 1);
        }
    }

    private static void wordsOfOneToSix() {
        B.sentence(4, "WORDS: small letters, 1 to 6");
        good("raw a;wish a;", 1);
        good("raw zzzzzz;wish zzzzzz;", 1);
        // As letters of a number these would be like ones if a letter stood for nothing.
        good("raw a;raw aa;raw aaa;raw aaaaaa;raw z;raw za;wish aaaaaa;", 6);
        good("raw b;raw bb;raw bbb;raw bbbbbb;raw az;raw zzzzzz;wish bb;", 6);
        fault("raw zzzzzzz;", 4, 1);
        fault("raw abcdefg;", 4, 1);
        fault("raw " + "a".repeat(300) + ";", 4, 1);
        fault("wishing a;", 0, 1);
    }

    private static void numbersOfOneOrTwo() {
        B.sentence(4, "NUMBERS: 1 or 2 digits");
        good("raw a costs 0;wish a;", 1);
        good("raw a costs 9;wish a;", 1);
        good("raw a costs 10;wish a;", 1);
        good("raw a costs 99;wish a;", 1);
        fault("raw a costs 100;wish a;", 12, 1);
        fault("raw a costs 000;wish a;", 12, 1);
        fault("raw a costs 001;wish a;", 12, 1);
        fault("raw a costs 4294967297;wish a;", 12, 1);
        fault("raw a costs -1;wish a;", 12, 1);
        fault("raw a costs +1;wish a;", 12, 1);
    }

    private static void goesOn() {
        B.sentence(4, "A WORD, NUMBER goes on as long as small letters and digits do");
        fault("raw a1;wish a;", 4, 1);
        fault("raw 1a;wish a;", 4, 1);
        fault("raw a costs5;wish a;", 6, 1);
        fault("raw a costs 5wish a;", 12, 1);
        fault("raw a costs 5a;wish a;", 12, 1);
        fault("rawa;", 0, 1);
        fault("raw1 a;", 0, 1);
        fault("1raw a;", 0, 1);
        // It ends where neither goes on, be it at what is no TOKEN.
        fault("raw a?;", 5, 1);
        fault("raw a costs 5?;", 13, 1);
    }

    private static void noToken() {
        B.sentence(5, "1 no TOKEN (at it)");
        // The signs next to the letters and the digits, capitals, and those above 127.
        for (char sign : new char[] {'`', '{', '/', ':', '@', 'A', 'Z', '[', '.', ',', '_', 0, 127, 128, 225, 255}) {
            fault("raw " + sign, 4, 1);
            fault("raw a" + sign + ";wish a;", 5, 1);
            fault("raw a costs 5" + sign + ";wish a;", 13, 1);
            fault("" + sign, 0, 1);
        }
    }

    private static void twoDigitsAreAllAsTold() {
        B.sentence(4, "NUMBERS of two digits are all as told");
        FewBowls x = Bench.with("raw a costs 00;raw b costs 01;raw c costs 09;raw d costs 90;raw e costs 0;wish a;");
        int[] costs = {0, 1, 9, 90, 0};
        for (int k = 0; k < costs.length; k++) {
            B.due("thing(" + k + ", 0)", x.thing(k, 0), costs[k]);
        }
    }

    // LINES: promises 4 and 5

    private static void noLine() {
        B.sentence(5, "1 one that can't come (at it)");
        fault(";", 0, 1);
        fault("raw a;;wish a;", 6, 1);
        fault("a;", 0, 1);
        fault("5;", 0, 1);
        fault("of a;", 0, 1);
        fault("costs 1;", 0, 1);
        fault("wash a;", 0, 1);
        fault("in a;", 0, 1);
        fault("raw a wish a;", 6, 1);
        fault("raw a in;", 6, 1);
        fault("raw a 5;", 6, 1);
        fault("raw a of a;", 6, 1);
        fault("raw a costs costs;", 12, 1);
        fault("raw a costs 1 costs 1;", 14, 1);
        fault("raw a;make b costs 1;", 13, 1);
        fault("raw a;make b of a costs a;", 24, 1);
        fault("raw a;make b of a;wish b costs 1;", 25, 1);
        fault("raw a;wish a of a;", 13, 1);
        fault("raw a;wish 1;", 11, 1);
    }

    private static void madeOfOneToSix() {
        B.sentence(4, "'of' NAME { NAME } (1 to 6 THINGS told ahead)");
        good("raw a;make b of a;wish b;", 2);
        good(SEVEN + "make h of a b c d e f;wish h;", 8);
        good(SEVEN + "make h of g f e d c b costs 2;wish h;", 8);
        fault(SEVEN + "make h of;wish h;", 51, 1);
        fault(SEVEN + "make h of costs 1;wish h;", 52, 1);
        fault(SEVEN + "make h;wish h;", 48, 1);
    }

    private static void wishes() {
        B.sentence(4, "'wish' NAME { NAME }");
        fault("raw a;wish;", 10, 1);
        good(raws(14) + "wish a b c d e f g h i j k l m n;", 14);
        good("raw a;wish a;raw b;wish b;make c of b;", 3);
        FewBowls x = Bench.with("raw a;raw b;raw c;wish c;wish a;");
        B.due("WISHED 0", x.thing(0, 2), 1);
        B.due("WISHED 1", x.thing(1, 2), 0);
        B.due("WISHED 2", x.thing(2, 2), 1);
    }

    private static void costs() {
        B.sentence(6, "A NUMBER is 0 to 99; 1 without");
        FewBowls x = Bench.with("raw a costs 0;raw b;raw c costs 99;make d of a costs 0;make e of a;make f of a costs 99;"
            + "raw g costs 1;wish f;");
        int[] costs = {0, 1, 99, 0, 1, 99, 1};
        for (int k = 0; k < costs.length; k++) {
            B.due("thing(" + k + ", 0)", x.thing(k, 0), costs[k]);
        }
    }

    private static void noNames() {
        B.sentence(4, "NAME: a WORD, none of raw, make, of, costs, wish, wash, in");
        for (String word : new String[] {"raw", "make", "of", "costs", "wish", "wash", "in"}) {
            fault("raw " + word + ";", 4, 1);
            fault("make " + word + " of a;", 5, 1);
            fault("raw a;make b of " + word + ";", 16, 1);
            fault("raw a;wish " + word + ";", 11, 1);
            // What only begins with it, or is its beginning, is a NAME.
            String more = word + "s";
            String less = word.substring(0, word.length() - 1);
            good("raw " + more + ";make " + less + " of " + more + ";wish " + less + " " + more + ";", 2);
        }
    }

    private static void fourteenThings() {
        B.sentence(4, "THINGS are numbered as told, from 0: 14 at most; those told by 'raw' are RAW");
        FewBowls x = Bench.with(raws(12) + "make m of l;make n of m;wish n;");
        B.due("count(0)", x.count(0), 14);
        B.due("RAW 11", x.thing(11, 1), 1);
        B.due("RAW 12", x.thing(12, 1), 0);
        B.due("RAW 13", x.thing(13, 1), 0);
        B.due("RAW 0", x.thing(0, 1), 1);
        B.due("what 13 is made of", x.thing(13, 4), 1 << 12);
        B.due("BELOW 13", x.thing(13, 5), 7 << 11);
    }

    // FAULTS: promise 5

    private static void firstAlongTheText() {
        B.sentence(5, "FAULTS, the first along the text");
        fault("raw a;raw a;raw 5;", 10, 3);
        fault("raw 5;raw a;raw a;", 4, 1);
        fault("wish a;raw", 5, 3);
        fault(SEVEN + "make h of a b c d e f g z;", 64, 4);
        fault(SEVEN + "make h of a b z d e f g;", 56, 3);
        fault(SEVEN + "make h of a b c d e f g g", 64, 4);
        fault(SEVEN + "make a of a b c d e f g;", 47, 3);
        // Behind the FAULT nothing is looked at, a text too long least of all.
        fault(at("raw a;raw a;", 540, ""), 10, 3);
    }

    private static void ofOneTokenTheLeast() {
        B.sentence(5, "of one TOKEN the least");
        String six = SEVEN + "make h of a b c d e f ";
        fault(six + "z;", 64, 3);
        fault(six + "h;", 64, 3);
        fault(six + "a;", 64, 3);
        fault(six + "f;", 64, 3);
        fault(six + "in;", 64, 1);
        fault(six + "5;", 64, 1);
        fault(six + "gggggg1;", 64, 1);
        fault(raws(14) + "wash", 84, 1);
        fault(raws(14) + "o;", 84, 1);
    }

    private static void atTheEnd() {
        B.sentence(5, "the end: how many bytes there are");
        fault("", 0, 1);
        fault("raw", 3, 1);
        fault("raw ", 4, 1);
        fault("raw a", 5, 1);
        fault("raw a \n ", 8, 1);
        fault("raw a costs", 11, 1);
        fault("raw a costs 5 ", 14, 1);
        fault("raw a;make", 10, 1);
        fault("raw a;make b", 12, 1);
        fault("raw a;make b of", 15, 1);
        fault("raw a;make b of a", 17, 1);
        fault("raw a;wish", 10, 1);
        fault("raw a;wish a", 12, 1);
        fault("raw a;wish a\n", 13, 1);
    }

    private static void nothingWished() {
        B.sentence(5, "also at the end, if nothing is WISHED");
        fault("", 0, 1);
        fault(" ", 1, 1);
        fault("raw a;", 6, 1);
        fault("raw a;\n \n", 9, 1);
        fault(raws(14), 84, 1);
        fault(at("raw a;", 500, ""), 500, 1);
    }

    private static void toldAlready() {
        B.sentence(5, "3 a NAME of a THING that is told already (at it)");
        fault("raw a;raw a;wish a;", 10, 3);
        fault("raw a;make a of a;wish a;", 11, 3);
        fault("raw a;make b of a;raw b;wish a;", 22, 3);
        fault("raw a;make b of a;make b of a;wish a;", 23, 3);
        fault(raws(13) + "raw a;", 82, 3);
        good("raw a;raw aa;raw b;raw ab;wish ab;", 4);
    }

    private static void notToldAhead() {
        B.sentence(5, "3 or not told ahead (at it)");
        fault("make b of a;raw a;wish b;", 10, 3);
        fault("raw a;make b of b;wish b;", 16, 3);
        fault("raw a;make b of a c;raw c;wish b;", 18, 3);
        fault("raw a;wish b;raw b;", 11, 3);
        fault("wish a;", 5, 3);
        fault("raw a;raw b;wish a b c;", 21, 3);
    }

    private static void twiceInOneOf() {
        B.sentence(5, "3 or that stands twice in one 'of' (at it)");
        fault("raw a;make b of a a;wish b;", 18, 3);
        fault("raw a;raw b;make c of a b a;wish c;", 26, 3);
        fault(SEVEN + "make h of a b c d e a;", 62, 3);
        good("raw a;make b of a;make c of a b;wish c;", 3);
    }

    private static void wishedAlready() {
        B.sentence(5, "3 or is WISHED already (at it)");
        fault("raw a;wish a a;", 13, 3);
        fault("raw a;wish a;wish a;", 18, 3);
        fault("raw a;raw b;wish a b;raw c;wish c b;", 34, 3);
        good("raw a;raw b;wish a;wish b;", 2);
    }

    private static void fifteenthThing() {
        B.sentence(5, "4 a 15th THING (at its LINE's first WORD)");
        fault(raws(14) + "raw o;wish o;", 84, 4);
        fault(raws(14) + "make o of a;wish o;", 84, 4);
        fault(raws(14) + " \n raw o;", 87, 4);
        fault(raws(14) + "wish a;raw o;", 91, 4);
        // Its own FAULTS stand farther along the text.
        fault(raws(14) + "raw a;", 84, 4);
        fault(raws(14) + "make o of z;", 84, 4);
        good(raws(14) + "wish n;", 14);
        good(raws(13) + "make n of a;wish n;", 14);
    }

    private static void seventhName() {
        B.sentence(5, "4 a seventh NAME behind 'of' (at it)");
        fault(SEVEN + "make h of a b c d e f g;wish h;", 64, 4);
        fault(SEVEN + "make h of a b c d e f  \n g;wish h;", 67, 4);
        // Only behind 'of': a wish may have them.
        good(SEVEN + "wish a b c d e f g;", 7);
    }

    // Texts of more than 500 bytes: promises 4 and 5

    private static void fiveHundredBytes() {
        B.sentence(5, "500, if there are more");
        good(at(ONE, 500, ""), 1);
        good(at("", 487, ONE), 1);
        fault(at(ONE, 501, ""), 500, 1);
        fault(at(ONE, 540, ""), 500, 1);
        fault(at("", 488, ONE), 500, 1);
        fault(at(ONE, 500, "wish"), 500, 1);
        fault(at("raw a;wish a", 500, ";"), 500, 1);
        fault(at("raw a;", 520, "wish a;"), 500, 1);
        fault(at("", 540, ""), 500, 1);
        // What begins at 500 is not looked at: neither 3 nor 4 nor no TOKEN.
        fault(at("raw a;wish a", 500, "a;"), 500, 1);
        fault(at(raws(14), 500, "raw o;"), 500, 1);
        fault(at(SEVEN + "make h of a b c d e f", 500, "g;"), 500, 1);
        fault(at(ONE, 500, "?"), 500, 1);
    }

    private static void noFaultAhead() {
        B.sentence(5, "and no FAULT is ahead");
        fault(at(ONE, 499, "?;"), 499, 1);
        fault(at("raw a;wish a", 499, "a;"), 499, 3);
        fault(at(raws(14), 499, "raw o;"), 499, 4);
        fault(at(SEVEN + "make h of a b c d e f", 499, "g;"), 499, 4);
        fault("?" + " ".repeat(539), 0, 1);
    }

    private static void readWhole() {
        B.sentence(5, "TOKENS that begin ahead of it are read whole");
        // Cut at 500 it would be a, which is WISHED already; whole it is a NAME not told, or told.
        fault(at("raw a;raw ab;wish a", 499, "ab;"), 500, 1);
        fault(at("raw a;raw ab;wish ab", 499, "ac;"), 499, 3);
        fault(at("raw a;raw ab;wish ab", 498, "ab;"), 498, 3);
        // Cut it would be good: a WORD of seven, a NUMBER of three, a WORD with a digit.
        fault(at("raw a;raw", 499, "bcdefgh;"), 499, 1);
        fault(at("raw a;raw", 494, "bcdefgh;"), 494, 1);
        fault(at("raw a;raw", 499, "bcdefg;"), 500, 1);
        fault(at("raw a costs", 499, "999;"), 499, 1);
        fault(at("raw a costs", 498, "999;"), 498, 1);
        fault(at("raw a costs", 499, "99;"), 500, 1);
        fault(at("raw a;raw", 499, "b1;"), 499, 1);
        fault(at(ONE, 499, "raw b;"), 500, 1);
        fault(at(ONE, 499, "rawx b;"), 499, 1);
        fault(at(ONE, 499, "r" + "a".repeat(40)), 499, 1);
    }

    // Promises 4 and 5

    private static void netAndFault() {
        netStays();
        netEmptiesTheTape();
        netIsTheNewOneWhole();
        faultOfTheLatest();
    }

    private static void netStays() {
        B.sentence(4, "-1 less the place of a FAULT: it stays");
        FewBowls x = Bench.with("raw a costs 3;make b of a;wish b;");
        for (String spoilt : new String[] {"", "raw", "raw c;raw d;raw e;wish c d e;?", "raw a costs 9;wish a;raw a;",
            raws(15), at(ONE, 501, "")}) {
            B.due("net() has a FAULT", Bench.net(x, spoilt) < 0, true);
            B.due("count(0)", x.count(0), 2);
            B.due("thing(0, 0)", x.thing(0, 0), 3);
            B.due("thing(0, 2)", x.thing(0, 2), 0);
            B.due("thing(1, 5)", x.thing(1, 5), 3);
            B.due("branch(1, false)", x.branch(1, false), 2);
            B.due("fewest(0)", x.fewest(0), 2);
            B.due("plan() by its NAMES", Bench.plan(x, "make b in a;"), 1);
        }
        B.due("a FAULT at 0 is -1", Bench.net(x, "?"), -1);
        B.due("a FAULT at 500 is -501", Bench.net(x, at(ONE, 501, "")), -501);
    }

    private static void netEmptiesTheTape() {
        B.sentence(4, "The tape (empty then, here and below)");
        FewBowls x = new FewBowls();
        Bench.net(x, ONE);
        B.due("count(2) behind net()", x.count(2), 0);
        Bench.net(x, "raw");
        B.due("count(2) behind a FAULT", x.count(2), 0);
        Bench.net(x, at(ONE, 540, ""));
        B.due("count(2) behind a long one", x.count(2), 0);
        Bench.plan(x, "make a;");
        B.due("count(2) behind plan()", x.count(2), 0);
        Bench.plan(x, "make z;");
        B.due("count(2) behind a FAULT of plan()", x.count(2), 0);
        Bench.order(x, 0, 0);
        B.due("count(2) behind order()", x.count(2), 0);
        Bench.order(x, 0, 0, 0, 0);
        B.due("count(2) behind order() of none", x.count(2), 0);
        B.due("feed", x.feed(0, 0, 0, 0, 0), 20);
        x.fewest(0);
        x.judge(0, 1);
        B.due("other calls leave it", x.count(2), 20);
    }

    private static void netIsTheNewOneWhole() {
        B.sentence(4, "The tape is the NET now: how many THINGS");
        FewBowls x = Bench.with(raws(13) + "make n of a b c d e f costs 7;wish n m;");
        B.due("net() of 1", Bench.net(x, ONE), 1);
        B.due("count(0)", x.count(0), 1);
        B.due("branch(1, false) of the old", x.branch(1, false), -1);
        B.due("WISHED 0", x.thing(0, 2), 1);
        B.due("fewest(0)", x.fewest(0), 1);
        B.due("net() of 14", Bench.net(x, raws(14) + "wish n;"), 14);
        B.due("RAW 13", x.thing(13, 1), 1);
        B.due("costs 13", x.thing(13, 0), 1);
        B.due("WISHED 12", x.thing(12, 2), 0);
        B.due("NEEDED 0", x.thing(0, 3), 0);
        B.due("BELOW 13", x.thing(13, 5), 1 << 13);
        B.due("branch(13, false)", x.branch(13, false), 1);
        // Nothing is left of the NETS of before, nor of one with a FAULT.
        for (int turn = 0; turn < 4; turn++) {
            B.due("net() of RAW in turn", Bench.net(x, "raw a;raw b;raw c;raw d;wish a b c d;"), 4);
            B.due("RAW 3 in turn", x.thing(3, 1), 1);
            B.due("DEPTH 3 in turn", x.tree(3, 1), 0);
            B.due("once(1) in turn", x.once(1), 4);
            if (turn >= 2) {
                Bench.net(x, "raw a;raw b;raw c;raw d;wish a d");
            }
            B.due("net() of made ones in turn", Bench.net(x, "raw a;make b of a;make c of b;make d of c;wish b;"), 4);
            B.due("RAW 3 of made ones in turn", x.thing(3, 1), 0);
            B.due("NEEDED 3 of made ones in turn", x.thing(3, 3), 0);
            B.due("DEPTH 3 of made ones in turn", x.tree(3, 1), 3);
            B.due("once(1) of made ones in turn", x.once(1), 1);
            B.due("carry(2) of made ones in turn", x.carry(2), 2);
        }
    }

    private static void faultOfTheLatest() {
        B.sentence(5, "The kind of the FAULT of the latest net() or plan(); 0 without one and ahead of any");
        FewBowls x = new FewBowls();
        B.due("ahead of any", x.fault(), 0);
        Bench.order(x, 0, 7);
        B.due("order() tells none", x.fault(), 0);
        Bench.plan(x, "make a;");
        B.due("plan() without a NET", x.fault(), 3);
        Bench.net(x, "raw");
        B.due("net() with one", x.fault(), 1);
        Bench.net(x, raws(15));
        B.due("net() with another", x.fault(), 4);
        Bench.plan(x, "");
        B.due("plan() without one", x.fault(), 0);
        Bench.plan(x, "?");
        B.due("plan() with one", x.fault(), 1);
        Bench.net(x, ONE);
        B.due("net() without one", x.fault(), 0);
        Bench.net(x, "wish a;");
        Bench.order(x, 0, 7);
        x.fewest(9);
        B.due("no other call changes it", x.fault(), 3);
    }

    // Promise 6

    private static void thing() {
        thingThrows();
        thingOfEachKind();
        throwingChangesNothing();
    }

    private static void thingThrows() {
        B.sentence(6, "NoSuchElementException: no such one, another what");
        FewBowls none = new FewBowls();
        FewBowls x = Bench.with("raw a;make b of a;wish b;");
        for (int what = -1; what <= 6; what++) {
            B.thingThrows(none, 0, what);
            for (int k : new int[] {-1, 2, 13, 14, 32, 33, MIN, MAX}) {
                B.thingThrows(x, k, what);
            }
        }
        for (int what : new int[] {-1, 6, 7, 32, MIN, MAX}) {
            B.thingThrows(x, 0, what);
            B.thingThrows(x, 1, what);
        }
        FewBowls all = Bench.with(raws(14) + "wish a;");
        B.due("thing(13, 1) of 14", all.thing(13, 1), 1);
        B.thingThrows(all, 14, 1);
        B.thingThrows(all, -1, 1);
    }

    private static void thingOfEachKind() {
        B.sentence(6, "3 NEEDED, 4 what it is made of, as bits, 5 BELOW");
        FewBowls x = Bench.with("raw a;raw b;make c of b;make d of c;make e of d;raw f;wish c;");
        int[][] due = {
            {1, 1, 0, 0, 0, 1}, {1, 1, 0, 1, 0, 2}, {1, 0, 1, 1, 2, 6}, {1, 0, 0, 0, 4, 14}, {1, 0, 0, 0, 8, 30},
            {1, 1, 0, 0, 0, 32}
        };
        for (int k = 0; k < due.length; k++) {
            for (int what = 0; what < 6; what++) {
                B.due("thing(" + k + ", " + what + ")", x.thing(k, what), due[k][what]);
            }
        }
    }

    private static void throwingChangesNothing() {
        B.sentence(6, "A call that throws changes nothing");
        FewBowls x = Bench.with("raw a;make b of a;wish b;");
        Bench.plan(x, "make a;make z;");
        x.acts(0, 2);
        x.feed(1, 2, 3, 4, 5);
        B.thingThrows(x, 2, 0);
        B.treeThrows(x, 0, 2);
        B.due("count(0)", x.count(0), 2);
        B.due("count(2)", x.count(2), 20);
        B.due("fault()", x.fault(), 3);
        B.due("actAt(1)", x.actAt(1), 1);
        B.due("thing(1, 4)", x.thing(1, 4), 1);
    }

    // Promises 26 and 27, and part 6 of the Terms

    private static FewBowls pair() {
        return Bench.with("raw a;make b of a;raw longer;wish b;");
    }

    private static void planOf60() {
        B.sentence(26, "{ ACT ; }, 60 at most");
        FewBowls x = pair();
        B.due("plan() of 60", Bench.plan(x, "make a;".repeat(30) + "wash b;".repeat(30)), 60);
        B.due("count(1)", x.count(1), 60);
        B.due("planAt(0)", x.planAt(0), 0);
        B.due("planAt(29)", x.planAt(29), 0);
        B.due("planAt(30)", x.planAt(30), 21);
        B.due("planAt(59)", x.planAt(59), 21);
        B.due("planAt(60)", x.planAt(60), -1);
    }

    private static void planOf61() {
        B.sentence(26, "4 a 61st ACT (at its first WORD)");
        FewBowls x = pair();
        Bench.plan(x, "wash a;wash b;");
        String sixty = "make a;".repeat(60);
        planFault(x, sixty + "make a;", 420, 4);
        planFault(x, sixty + "wash a;", 420, 4);
        planFault(x, sixty + "\n wash", 422, 4);
        planFault(x, sixty + "make z;", 420, 4);
        planFault(x, sixty + "raw a;", 420, 1);
        planFault(x, sixty + "a;", 420, 1);
        planFault(x, sixty + ";", 420, 1);
        planFault(x, "make a;".repeat(59) + "make z;wash a;", 418, 3);
        B.due("planAt(1) stays", x.planAt(1), 21);
    }

    private static void planOf500Bytes() {
        B.sentence(26, "A PLAN is a text of at most 500 bytes");
        FewBowls x = pair();
        B.due("plan() of 500", Bench.plan(x, at("make a;", 493, "wash a;")), 2);
        B.due("plan() of 500 blanks", Bench.plan(x, at("", 500, "")), 0);
        planFault(x, at("make a;", 494, "wash a;"), 500, 1);
        planFault(x, at("make a;", 501, ""), 500, 1);
        planFault(x, at("", 540, ""), 500, 1);
        planFault(x, at("make a", 500, ";"), 500, 1);
        planFault(x, at("make a;", 500, "?"), 500, 1);
        planFault(x, at("make", 500, "z"), 500, 1);
        planFault(x, at("make", 499, "z;"), 499, 3);
        planFault(x, at("make", 499, "longer;"), 500, 1);
        planFault(x, at("make", 499, "longest;"), 499, 1);
        planFault(x, at("make", 499, "ab;"), 499, 3);
        planFault(x, at("make a;".repeat(60), 499, "wash a;"), 499, 4);
    }

    private static void planCantCome() {
        B.sentence(26, "FAULTS: 1");
        FewBowls x = pair();
        planFault(x, "make", 4, 1);
        planFault(x, "make ", 5, 1);
        planFault(x, "make;", 4, 1);
        planFault(x, "make a", 6, 1);
        planFault(x, "make a \n", 8, 1);
        planFault(x, "make a b;", 7, 1);
        planFault(x, "make a of b;", 7, 1);
        planFault(x, "make a costs 1;", 7, 1);
        planFault(x, "make a in", 9, 1);
        planFault(x, "make a in;", 9, 1);
        planFault(x, "make a in b in a;", 12, 1);
        planFault(x, "make a in 1;", 10, 1);
        planFault(x, "wash a in b;", 7, 1);
        planFault(x, "wash a b;", 7, 1);
        planFault(x, "wash;", 4, 1);
        planFault(x, ";", 0, 1);
        planFault(x, "make a;;", 7, 1);
        planFault(x, "raw a;", 0, 1);
        planFault(x, "wish a;", 0, 1);
        planFault(x, "a;", 0, 1);
        planFault(x, "1;", 0, 1);
        planFault(x, "make a1;", 5, 1);
        planFault(x, "make a;\t", 7, 1);
        for (String word : new String[] {"raw", "make", "of", "costs", "wish", "wash", "in"}) {
            planFault(x, "make " + word + ";", 5, 1);
            planFault(x, "wash " + word + ";", 5, 1);
            planFault(x, "make a in " + word + ";", 10, 1);
        }
    }

    private static void planNoSuchThing() {
        B.sentence(26, "3 no such THING (at it)");
        FewBowls x = pair();
        planFault(x, "make c;", 5, 3);
        planFault(x, "wash c;", 5, 3);
        planFault(x, "make a in c;", 10, 3);
        planFault(x, "make c in z;", 5, 3);
        planFault(x, "make aa;", 5, 3);
        planFault(x, "make a;wash b;make a in b;wash z", 31, 3);
        planFault(x, "make c", 5, 3);
        planFault(new FewBowls(), "make a;", 5, 3);
        planFault(new FewBowls(), "wash a;", 5, 3);
        // The NET of a net() with a FAULT is none of then.
        Bench.net(x, "raw c;wish c;?");
        planFault(x, "make c;", 5, 3);
        B.due("plan() by the NET that stays", Bench.plan(x, "make longer in b;"), 1);
        Bench.net(x, "raw c;wish c;");
        planFault(x, "make a;", 5, 3);
    }

    private static void planEmpty() {
        B.sentence(26, "The tape is the PLAN now: how many ACTS");
        FewBowls x = new FewBowls();
        B.due("plan() of no bytes without a NET", x.plan(), 0);
        B.due("fault()", x.fault(), 0);
        FewBowls y = pair();
        B.due("plan() of 3", Bench.plan(y, "make a;make a;make a;"), 3);
        B.due("plan() of 1", Bench.plan(y, "wash b;"), 1);
        B.due("planAt(0) of 1", y.planAt(0), 21);
        B.due("planAt(1) of 1", y.planAt(1), -1);
        B.due("plan() of blanks", Bench.plan(y, "\n \n"), 0);
        B.due("count(1) of blanks", y.count(1), 0);
        B.due("planAt(0) of blanks", y.planAt(0), -1);
    }

    private static void planKept() {
        B.sentence(27, "ACT i of the PLAN as a number; NONE: there is none such");
        FewBowls x = Bench.with(raws(12) + "make m of a b c d e f;make n of m a;wish n;");
        B.due("plan()", Bench.plan(x, "make a;make n;wash a;wash n;make n in m;make a in a;make n in n;make a in n;"), 8);
        int[] numbers = {0, 13, 20, 33, 372, 100, 373, 113};
        for (int i = 0; i < numbers.length; i++) {
            B.due("planAt(" + i + ")", x.planAt(i), numbers[i]);
        }
        for (int i : new int[] {-1, 8, 59, 60, 64, MIN, MAX}) {
            B.due("planAt(" + i + ")", x.planAt(i), -1);
        }
        B.sentence(27, "It is kept as numbers of ACTS, whatever NET comes");
        Bench.net(x, "raw n;raw a;wish n;");
        for (int i = 0; i < numbers.length; i++) {
            B.due("planAt(" + i + ") with another NET", x.planAt(i), numbers[i]);
        }
        B.due("count(1)", x.count(1), 8);
    }

    // Promise 32

    private static void count() {
        B.sentence(32, "0 THINGS, 1 ACTS of the PLAN, 2 bytes of the tape. NONE for another what");
        FewBowls x = new FewBowls();
        for (int what : new int[] {-1, 3, 4, 32, MIN, MAX}) {
            B.due("count(" + what + ") of a new one", x.count(what), -1);
        }
        Bench.net(x, raws(14) + "wish a;");
        Bench.plan(x, "make a;".repeat(60));
        Bench.tape(x, at("", 540, ""));
        B.due("count(0) at its most", x.count(0), 14);
        B.due("count(1) at its most", x.count(1), 60);
        B.due("count(2) at its most", x.count(2), 540);
        for (int what : new int[] {-1, 3, 4, 32, MIN, MAX}) {
            B.due("count(" + what + ")", x.count(what), -1);
        }
    }
}
