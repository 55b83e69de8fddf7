import java.util.NoSuchElementException;

/** What the tests share: feeding texts, comparing answers, and telling how many were wrong. */
final class Bench {
    /** "An object is used for at most 512 calls": no test asks an object for more. */
    static final int MOST_CALLS = 512;

    private final String name;
    private int wrong = 0;
    private int calls = 0;
    private int sentences = 0;
    private String sentence = "";

    Bench(String name) {
        this.name = name;
    }

    void due(String what, long got, long want) {
        calls++;
        if (got != want) {
            wrong++;
            System.out.println(name + ": " + sentence + what + " answered " + got + ", due is " + want);
        }
    }

    /** All that is asked from here on stands for this sentence of the document, of this promise. */
    void sentence(int promise, String words) {
        sentences++;
        sentence = "promise " + promise + ", '" + words + "': ";
    }

    void due(String what, boolean got, boolean want) {
        due(what, got ? 1 : 0, want ? 1 : 0);
    }

    void thingThrows(FewBowls x, int k, int what) {
        boolean thrown = false;
        try {
            x.thing(k, what);
        } catch (NoSuchElementException e) {
            thrown = true;
        }
        due("thing(" + k + ", " + what + ") throws", thrown, true);
    }

    void treeThrows(FewBowls x, int k, int what) {
        boolean thrown = false;
        try {
            x.tree(k, what);
        } catch (NoSuchElementException e) {
            thrown = true;
        }
        due("tree(" + k + ", " + what + ") throws", thrown, true);
    }

    void close() {
        if (wrong > 0) {
            System.out.println(name + ": " + wrong + " of " + calls + " wrong");
            System.exit(1);
        }
        String told = sentences > 0 ? " for " + sentences + " sentences" : "";
        System.out.println(name + ": " + calls + " answers as due" + told);
    }

    /** How many calls it takes to put the text on the tape and to read it from there. */
    static int callsFor(String text) {
        return (text.length() + 19) / 20 + 2;
    }

    /** Puts the text on the tape, which must be empty. */
    static void tape(FewBowls x, byte[] text) {
        for (int at = 0; at < text.length; at += 20) {
            int[] five = new int[5];
            for (int i = 0; i < 20; i++) {
                int sign = at + i < text.length ? text[at + i] & 255 : 0;
                five[i / 4] = five[i / 4] << 8 | sign;
            }
            x.feed(five[0], five[1], five[2], five[3], five[4]);
        }
        x.end(text.length);
    }

    static void tape(FewBowls x, String text) {
        byte[] bytes = new byte[text.length()];
        for (int i = 0; i < bytes.length; i++) {
            bytes[i] = (byte) text.charAt(i);
        }
        tape(x, bytes);
    }

    static int net(FewBowls x, String text) {
        tape(x, text);
        return x.net();
    }

    static int plan(FewBowls x, String text) {
        tape(x, text);
        return x.plan();
    }

    static int order(FewBowls x, int ways, int... things) {
        byte[] bytes = new byte[things.length];
        for (int i = 0; i < bytes.length; i++) {
            bytes[i] = (byte) things[i];
        }
        tape(x, bytes);
        return x.order(ways);
    }

    static FewBowls with(String net) {
        FewBowls x = new FewBowls();
        int things = net(x, net);
        if (things < 0) {
            throw new IllegalStateException("the test's own net has a fault at " + (-1 - things) + ": " + net);
        }
        return x;
    }
}
