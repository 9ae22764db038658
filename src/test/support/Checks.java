/** What the tests of the promises share: texts, longer ways to ask, and telling what is wrong. */
abstract class Checks {
    static final int BAD = RefinementBench.BAD;
    static final int NO = RefinementBench.NO;
    static final int FULL = RefinementBench.FULL;

    static final int SKIP = 1;
    static final int ASSIGN = 2;
    static final int SEQUENCE = 3;
    static final int ALTERNATIVE = 4;
    static final int LOOP = 5;
    static final int STRONGER = 6;
    static final int WEAKER = 7;
    static final int NARROWER = 8;

    private static int wrong = 0;
    private static String part = "";

    /** Names what is tested from here on: a promise, or a sentence of the document. */
    static void test(String name) {
        part = name;
    }

    static void due(String call, int got, int want) {
        if (got != want) {
            wrong++;
            System.out.println(part + ": " + call + " answered " + got + ", due is " + want);
        }
    }

    /** Ends the test, with exit code 1 if an answer was wrong. */
    static void end(String whatHolds) {
        System.out.println(wrong == 0 ? whatHolds : wrong + " answers are not as due");
        if (wrong != 0) {
            System.exit(1);
        }
    }

    /** Types a text into an empty buffer; one that is empty types nothing. */
    static void put(RefinementBench x, String text) {
        for (int from = 0; from < text.length(); from += 8) {
            int to = Math.min(text.length(), from + 8);
            due("type " + text, x.type(packed(text.substring(from, to)), to - from), to);
        }
    }

    /** Up to eight characters as type() takes them. */
    static long packed(String text) {
        long characters = 0;
        for (int i = 0; i < text.length(); i++) {
            characters = characters << 8 | text.charAt(i);
        }
        return characters;
    }

    static void set(RefinementBench x, int slot, String text) {
        put(x, text);
        due("hold " + text, x.hold(slot), text.length());
    }

    /** Holds the pre and the post, and begins with them. */
    static void begin(RefinementBench x, int frame, String pre, String post) {
        set(x, 0, pre);
        set(x, 1, post);
        due("begin", x.begin(frame), 1);
    }

    static RefinementBench begun(int frame, String pre, String post) {
        RefinementBench x = new RefinementBench();
        begin(x, frame, pre, post);
        return x;
    }

    /** A formula of this length. */
    static String formula(int length) {
        return "!".repeat(length - 1) + "T";
    }

    /** A term of this length, which is odd, as every term's is. */
    static String term(int length) {
        return "+1".repeat(length / 2) + "1";
    }

    static void dueText(RefinementBench x, int node, int which, String want) {
        StringBuilder got = new StringBuilder();
        int next = x.text(node, which, 0);
        for (int i = 1; i <= 200 && next != BAD; i++) {
            got.append((char) next);
            next = x.text(node, which, i);
        }
        if (!got.toString().equals(want)) {
            due("text(" + node + ", " + which + ") is " + got + " and not " + want, 0, 1);
        }
    }

    /** The numbers of a, b, c, x and z in the refuting state. */
    static void dueState(RefinementBench x, String state) {
        for (int i = 0; i < 5; i++) {
            due("refuting " + i, x.refuting(i), state.charAt(i) - '0');
        }
    }

    static void dueOpen(RefinementBench x, int open, int first) {
        due("open", x.open(), open);
        due("first", x.first(), first);
    }

    /** The answers of node() from what = 0 on. */
    static void dueNode(RefinementBench x, int node, int... wants) {
        for (int what = 0; what < wants.length; what++) {
            due("node(" + node + ", " + what + ")", x.node(node, what), wants[what]);
        }
    }

    /** Runs, and asks for as many answers of after() as are given. */
    static void dueRun(RefinementBench x, int[] arguments, int did, int... wants) {
        String name = "run" + java.util.Arrays.toString(arguments);
        due(name, x.run(arguments[0], arguments[1], arguments[2], arguments[3]), did);
        for (int v = 0; v < wants.length; v++) {
            due(name + ", after " + v, x.after(v), wants[v]);
        }
    }
}
