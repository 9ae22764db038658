/** Each sentence of the promises that names a boundary: at the boundary and beyond it. */
public final class BoundariesOfPromisesTest extends Checks {
    /** Numbers that are neither a node nor a law nor anything else of the document. */
    private static final int[] FAR = {Integer.MIN_VALUE, Integer.MIN_VALUE + 1, -1000, -257, -256, -17, -16, 256, 257,
        1000000, Integer.MAX_VALUE - 1, Integer.MAX_VALUE};

    public static void main(String[] args) {
        noNodes();
        emptyBuffer();
        highestFirst();
        badCount();
        badCharacter();
        fullBuffer();
        heldLength();
        wrongPlace();
        noSuchSlot();
        allNodesGo();
        badFrame();
        firstChild();
        noSuchNodeOrLaw();
        refinedAlready();
        refusalsInOrder();
        proved();
        refutedByTheFirst();
        leastState();
        leastZ();
        proveRefused();
        refutingOthers();
        refutingBefore();
        open();
        first();
        pruned();
        numbersGo();
        pruneRefused();
        nodeWhat();
        nodeUnrefined();
        nodeProved();
        nodeRefused();
        textEnds();
        textRefused();
        programRefused();
        instructionEnds();
        instructionRefused();
        runModulo();
        runFuel();
        runRefused();
        afterOthers();
        afterBefore();
        end("all boundaries of the promises are kept");
    }

    private static void noNodes() {
        test("No nodes");
        RefinementBench x = new RefinementBench();
        for (int i = 0; i <= 17; i++) {
            due("node " + i, x.node(i, 0), BAD);
        }
        dueOpen(x, 0, 0);
        due("no root", x.program(), NO);
    }

    private static void emptyBuffer() {
        test("an empty buffer");
        due("nothing to read", new RefinementBench().hold(0), -100);
        due("nor a term", new RefinementBench().hold(3), -100);
        due("the first character", new RefinementBench().type('T', 1), 1);
        due("eight", new RefinementBench().type(packed("!!!!!!!T"), 8), 8);
    }

    private static void highestFirst() {
        test("The lowest n bytes of characters, the highest of them first, come behind the buffer: how many it has.");
        String text = "&=ab<+c7";
        long characters = packed(text);
        for (int n = 1; n <= 8; n++) {
            RefinementBench x = new RefinementBench();
            due("before", x.type('!', 1), 1);
            due("n " + n, x.type(characters, n), n + 1);
            // The bytes above the lowest n do not come, whatever they are.
            String came = "!" + text.substring(8 - n);
            RefinementBench y = new RefinementBench();
            put(y, came);
            due(came, x.hold(0), y.hold(0));
        }
        RefinementBench z = new RefinementBench();
        due("bytes that do not come", z.type(0xFF00207F80FF0154L, 1), 1);
        due("T", z.hold(0), 1);
        due("a high bit", z.type(Long.MIN_VALUE | packed("=ab"), 3), 3);
        due("=ab", z.hold(0), 3);
        due("all eight", z.type(packed("&=ab<ab") << 8 | '~', 8), 8);
        due("the last one is behind", z.hold(0), -107);
    }

    private static void badCount() {
        test("BAD when n is not 1 .. 8");
        RefinementBench x = new RefinementBench();
        long eight = packed("TTTTTTTT");
        due("0", x.type(eight, 0), BAD);
        due("-1", x.type(eight, -1), BAD);
        due("9", x.type(eight, 9), BAD);
        for (int n : FAR) {
            due("n " + n, x.type(eight, n), BAD);
        }
        due("1", x.type(eight, 1), 1);
        due("8", x.type(eight, 8), 9);
    }

    private static void badCharacter() {
        test("or one is not 33 .. 126");
        for (int n = 1; n <= 8; n++) {
            for (int place = 0; place < n; place++) {
                RefinementBench x = new RefinementBench();
                long others = packed("!!!!!!!!") & ~(255L << 8 * place);
                for (long one : new long[] {0, 1, 31, 32, 127, 128, 161, 255}) {
                    due(one + " at " + place + " of " + n, x.type(others | one << 8 * place, n), BAD);
                }
                due("none came", x.type(others | 33L << 8 * place, n), n);
                due("126 too", x.type(others | 126L << 8 * place, n), 2 * n);
            }
        }
    }

    private static void fullBuffer() {
        test("FULL when there would be more than 60");
        RefinementBench x = new RefinementBench();
        put(x, "!".repeat(53));
        due("61", x.type(packed(formula(8)), 8), FULL);
        due("BAD is named first", x.type(packed("!!!!!!! "), 8), BAD);
        due("60", x.type(packed(formula(7)), 7), 60);
        for (int n = 1; n <= 8; n++) {
            due("more", x.type(packed(formula(n)), n), FULL);
        }
        due("BAD still", x.type(' ', 1), BAD);
        due("BAD still", x.type('T', 0), BAD);
        due("it is as it was", x.hold(0), 60);
    }

    private static void heldLength() {
        test("A slot gets what the buffer is a text of: how many characters");
        for (int length = 1; length <= 60; length++) {
            RefinementBench x = new RefinementBench();
            set(x, 0, formula(length));
            x.begin(0);
            dueText(x, 1, 0, formula(length));
        }
        for (int length = 1; length <= 59; length += 2) {
            RefinementBench x = begun(1, "T", "=a0");
            set(x, 3, term(length));
            x.refine(1, ASSIGN, 0);
            dueText(x, 1, 2, ">T=" + term(length) + "0");
        }
    }

    private static void wrongPlace() {
        test("-100 - the place where it is wrong");
        for (int place = 0; place <= 59; place++) {
            RefinementBench x = begun(0, "=a1", "=b1");
            put(x, "!".repeat(place) + "0" + "!".repeat(59 - place));
            due("place " + place, x.hold(0), -100 - place);
            put(x, "!".repeat(place));
            due("its end " + place, x.hold(1), -100 - place);
            x.begin(0);
            dueText(x, 1, 0, "=a1");
            dueText(x, 1, 1, "=b1");
        }
    }

    private static void noSuchSlot() {
        test("BAD when there is no such slot");
        RefinementBench x = new RefinementBench();
        put(x, "7");
        due("-1", x.hold(-1), BAD);
        due("4", x.hold(4), BAD);
        for (int slot : FAR) {
            due("slot " + slot, x.hold(slot), BAD);
        }
        due("3", x.hold(3), 1);
        due("BAD of an empty buffer too", x.hold(4), BAD);
        due("0", x.hold(0), -100);
    }

    private static void allNodesGo() {
        test("All nodes go");
        RefinementBench x = begun(7, "=a1", "=a2");
        for (int i = 1; i < 16; i++) {
            x.refine(i, NARROWER, 7);
        }
        due("16 nodes", x.node(16, 0), 7);
        set(x, 1, "=a3");
        due("1", x.begin(2), 1);
        for (int i = 2; i <= 16; i++) {
            due("node " + i, x.node(i, 0), BAD);
        }
        dueNode(x, 1, 2, 0, 0, 0, 0, 0);
        dueText(x, 1, 0, "=a1");
        dueText(x, 1, 1, "=a3");
        dueOpen(x, 1, 1);
    }

    private static void badFrame() {
        test("BAD when frame is not 0 .. 7");
        RefinementBench x = new RefinementBench();
        due("-1", x.begin(-1), BAD);
        due("8", x.begin(8), BAD);
        due("no root came", x.node(1, 0), BAD);
        due("0", x.begin(0), 1);
        due("frame 0", x.node(1, 0), 0);
        due("7", x.begin(7), 1);
        due("frame 7", x.node(1, 0), 7);
        x.refine(1, SEQUENCE, 0);
        set(x, 0, "=a1");
        for (int frame : FAR) {
            due("frame " + frame, x.begin(frame), BAD);
        }
        due("8", x.begin(8), BAD);
        due("-1", x.begin(-1), BAD);
        due("the nodes stay", x.node(3, 0), 7);
        dueText(x, 1, 0, "T");
    }

    private static void firstChild() {
        test("the number of its first child; 0 when it has none");
        RefinementBench x = new RefinementBench();
        for (int law = SKIP; law <= NARROWER; law++) {
            x.begin(7);
            due("law " + law, x.refine(1, law, 0), law <= ASSIGN ? 0 : 2);
            due("its first child", x.node(1, 2), law <= ASSIGN ? 0 : 2);
            due("its second", x.node(1, 3), law == SEQUENCE || law == ALTERNATIVE ? 3 : 0);
        }
    }

    private static void noSuchNodeOrLaw() {
        test("BAD when there is no such node or law");
        RefinementBench x = new RefinementBench();
        due("no nodes yet", x.refine(1, SKIP, 0), BAD);
        x.begin(7);
        for (int i = 1; i < 16; i++) {
            due("law 8", x.refine(i, NARROWER, 7), i + 1);
        }
        due("node 0", x.refine(0, SKIP, 0), BAD);
        due("node -1", x.refine(-1, SKIP, 0), BAD);
        due("node 17", x.refine(17, SKIP, 0), BAD);
        due("law 0", x.refine(16, 0, 0), BAD);
        due("law -1", x.refine(16, -1, 0), BAD);
        due("law 9", x.refine(16, 9, 0), BAD);
        for (int far : FAR) {
            due("node " + far, x.refine(far, SKIP, 0), BAD);
            due("law " + far, x.refine(16, far, 0), BAD);
        }
        due("node 16, law 1", x.refine(16, SKIP, 0), 0);
        x.prune(15);
        due("one that went", x.refine(16, SKIP, 0), BAD);
    }

    private static void refinedAlready() {
        test("NO when it is refined");
        for (int law = SKIP; law <= NARROWER; law++) {
            RefinementBench x = begun(7, "T", "T");
            x.refine(1, law, 0);
            for (int other = SKIP; other <= NARROWER; other++) {
                due("law " + other + " after " + law, x.refine(1, other, 0), NO);
            }
            due("the law stays", x.node(1, 1), law);
            x.prove(1);
            due("proved or not", x.refine(1, SKIP, 0), NO);
            x.prune(1);
            due("not after prune", x.refine(1, SKIP, 0), 0);
        }
    }

    /** What is named first counts. */
    private static void refusalsInOrder() {
        test("BAD when there is no such node or law; NO when it is refined, or when it is not as the law says;"
            + " FULL when there is no room");
        RefinementBench x = begun(0, formula(60), formula(60));
        due("FULL", x.refine(1, SKIP, 0), FULL);
        due("NO before FULL", x.refine(1, ASSIGN, 0), NO);
        due("the frame is 0", x.refine(1, NARROWER, 1), NO);
        x.refine(1, NARROWER, 0);
        due("NO before FULL", x.refine(1, SKIP, 0), NO);
        due("BAD before NO", x.refine(1, 9, 0), BAD);
        due("BAD before NO", x.refine(3, ASSIGN, 0), BAD);
        for (int i = 2; i < 16; i++) {
            x.refine(i, NARROWER, 0);
        }
        set(x, 0, "=ax");
        set(x, 1, "=ax");
        due("NO before FULL", x.refine(16, ALTERNATIVE, 0), NO);
        due("NO before FULL", x.refine(16, LOOP, 0), NO);
        due("FULL", x.refine(16, NARROWER, 0), FULL);
    }

    private static void proved() {
        test("1 when all are valid (they are proved then)");
        RefinementBench x = begun(7, "T", "T");
        for (int law = SKIP; law <= NARROWER; law++) {
            x.refine(1, law, 0);
            int conditions = law == LOOP ? 2 : law == SEQUENCE || law == ALTERNATIVE || law == NARROWER ? 0 : 1;
            due("conditions of law " + law, x.node(1, 4), conditions);
            due("law " + law, x.prove(1), 1);
            due("proved", x.node(1, 5), 1);
            due("once more", x.prove(1), 1);
            x.prune(1);
        }
    }

    private static void refutedByTheFirst() {
        test("0 when one is not: the state in which the first such one does not hold");
        dueRefutedLoop("!=a1", "T", "=b1", "=b1", "00000");
        dueRefutedLoop("T", "=c3", "T", "!=a5", "50000");
        dueRefutedLoop("T", "=c0", "=a0", "!T", "10000");
        dueRefutedLoop("=b2", "<a7", "=b2", "T", "");
    }

    /** Refines by LOOP with these P, Q, F0 and F1; no state when both conditions are valid. */
    private static void dueRefutedLoop(String p, String q, String f0, String f1, String state) {
        RefinementBench x = begun(7, p, q);
        set(x, 0, f0);
        set(x, 1, f1);
        x.refine(1, LOOP, 0);
        boolean valid = state.isEmpty();
        due("prove", x.prove(1), valid ? 1 : 0);
        dueState(x, valid ? "00000" : state);
        due("all or none are proved", x.node(1, 5), valid ? 1 : 0);
        due("open", x.open(), valid ? 1 : 3);
    }

    private static void leastState() {
        test("the one with the least 512 a + 64 b + 8 c + x");
        dueLeast("0777", "1000", "0777");
        dueLeast("6777", "7000", "6777");
        dueLeast("3077", "3100", "3077");
        dueLeast("3607", "3610", "3607");
        dueLeast("3673", "3674", "3673");
        dueLeast("0000", "7777", "0000");
        dueLeast("7776", "7777", "7776");
        dueLeast("7777", "7777", "7777");
    }

    /** A condition that fails in two states, told in both orders. */
    private static void dueLeast(String one, String other, String want) {
        for (int i = 0; i < 2; i++) {
            String p = "|" + in(i == 0 ? one : other) + in(i == 0 ? other : one);
            RefinementBench x = begun(0, p, "!T");
            x.refine(1, SKIP, 0);
            due("prove", x.prove(1), 0);
            dueState(x, want + "0");
        }
    }

    /** A formula that holds in the states with these a, b, c and x. */
    private static String in(String state) {
        return "&&=a" + state.charAt(0) + "=b" + state.charAt(1) + "&=c" + state.charAt(2) + "=x" + state.charAt(3);
    }

    private static void leastZ() {
        test("and of those the one with the least z, is the REFUTING state");
        RefinementBench x = new RefinementBench();
        x.begin(7);
        set(x, 0, "<x2");
        set(x, 3, "-x1");
        x.refine(1, LOOP, 0);
        x.refine(2, SKIP, 0);
        due("x 0 with z 7, or x 1 with z 0", x.prove(2), 0);
        dueState(x, "00007");
        x.prune(2);
        set(x, 0, "=a6");
        x.refine(2, STRONGER, 0);
        due("x 0 with each z", x.prove(2), 0);
        dueState(x, "60000");
        set(x, 0, "T");
        set(x, 3, "a");
        x.begin(7);
        x.refine(1, LOOP, 0);
        set(x, 3, "7");
        x.refine(2, ASSIGN, 0);
        due("z is a", x.prove(2), 0);
        dueState(x, "00000");
        x.prune(2);
        set(x, 3, "0");
        x.refine(2, ASSIGN, 0);
        due("0 is less than all but 0", x.prove(2), 0);
        dueState(x, "00000");
    }

    private static void proveRefused() {
        test("BAD when there is no such node; NO when it is not refined (prove)");
        RefinementBench x = new RefinementBench();
        due("no nodes yet", x.prove(1), BAD);
        x.begin(7);
        due("not refined", x.prove(1), NO);
        for (int i = 1; i < 16; i++) {
            x.refine(i, NARROWER, 7);
        }
        due("16 is not refined", x.prove(16), NO);
        due("15 is", x.prove(15), 1);
        for (int node : FAR) {
            due("node " + node, x.prove(node), BAD);
        }
        due("0", x.prove(0), BAD);
        due("-1", x.prove(-1), BAD);
        due("17", x.prove(17), BAD);
        x.prune(14);
        due("14 is not any more", x.prove(14), NO);
        due("15 went", x.prove(15), BAD);
    }

    private static void refutingOthers() {
        test("The number of a variable or constant (0 .. 4 for a, b, c, x, z) in the refuting state;"
            + " BAD for others");
        RefinementBench x = new RefinementBench();
        x.begin(7);
        set(x, 0, in("1234"));
        set(x, 3, "5");
        x.refine(1, LOOP, 0);
        x.refine(2, SKIP, 0);
        due("prove", x.prove(2), 0);
        due("-1", x.refuting(-1), BAD);
        dueState(x, "12345");
        due("5", x.refuting(5), BAD);
        for (int what : FAR) {
            due("what " + what, x.refuting(what), BAD);
        }
    }

    private static void refutingBefore() {
        test("of the latest prove() that answered 0 (0 before)");
        RefinementBench x = begun(0, in("7654"), "!T");
        dueState(x, "00000");
        due("5", x.refuting(5), BAD);
        due("NO", x.prove(1), NO);
        x.refine(1, SKIP, 0);
        dueState(x, "00000");
        due("0", x.prove(1), 0);
        dueState(x, "76540");
        x.prune(1);
        due("NO", x.prove(1), NO);
        due("BAD", x.prove(2), BAD);
        x.refine(1, SEQUENCE, 0);
        due("1", x.prove(1), 1);
        x.begin(0);
        dueState(x, "76540");
        begin(x, 0, "T", "=x0");
        x.refine(1, SKIP, 0);
        dueState(x, "76540");
        due("0", x.prove(1), 0);
        dueState(x, "00010");
    }

    private static void open() {
        test("How many nodes and conditions are open.");
        RefinementBench x = new RefinementBench();
        due("none", x.open(), 0);
        x.begin(7);
        due("the root", x.open(), 1);
        for (int i = 1; i <= 7; i++) {
            x.refine(i, SEQUENCE, 0);
            due("leaves", x.open(), i + 1);
        }
        x.refine(8, LOOP, 0);
        due("16 nodes: 8 leaves and 2 conditions", x.open(), 10);
        for (int i = 9; i <= 16; i++) {
            x.refine(i, SKIP, 0);
            due("a condition for a node", x.open(), 10);
        }
        for (int i = 8; i <= 15; i++) {
            x.prove(i);
        }
        due("the last one's", x.open(), 1);
        x.prune(16);
        due("the last one", x.open(), 1);
        due("all but the root went", x.prune(1), 15);
        due("the root", x.open(), 1);
    }

    private static void first() {
        test("The least number of a node that is open, or has an open condition; 0 when there is none.");
        RefinementBench x = new RefinementBench();
        due("no node", x.first(), 0);
        x.begin(7);
        due("the root", x.first(), 1);
        for (int i = 1; i < 16; i++) {
            x.refine(i, WEAKER, 0);
            due("its condition", x.first(), i);
            x.prove(i);
            due("the next node", x.first(), i + 1);
        }
        x.refine(16, SKIP, 0);
        due("16 has a condition", x.first(), 16);
        x.prove(16);
        due("nothing is open", x.first(), 0);
        x.prune(15);
        due("15 is open", x.first(), 15);
        x.prune(1);
        due("1 is open", x.first(), 1);
    }

    private static void pruned() {
        test("What came of a node, in all steps, goes, and it is not refined any more: how many nodes went.");
        RefinementBench x = begun(7, "T", "T");
        x.refine(1, SKIP, 0);
        due("none", x.prune(1), 0);
        dueNode(x, 1, 7, 0, 0, 0, 0, 0);
        for (int i = 1; i < 16; i++) {
            x.refine(i, NARROWER, 7);
        }
        due("16", x.prune(15), 1);
        due("15 stays", x.node(15, 1), 0);
        due("all steps", x.prune(1), 14);
        dueNode(x, 1, 7, 0, 0, 0, 0, 0);
        dueOpen(x, 1, 1);
        x.refine(1, SEQUENCE, 0);
        due("two", x.prune(1), 2);
    }

    private static void numbersGo() {
        test("(Their numbers go; those of others stay. New nodes get the least numbers that are free.)");
        RefinementBench x = begun(7, "T", "T");
        x.refine(1, SEQUENCE, 0);
        x.refine(2, SEQUENCE, 0);
        x.refine(3, SEQUENCE, 0);
        due("4 and 5", x.prune(2), 2);
        due("4 went", x.node(4, 0), BAD);
        due("5 went", x.node(5, 0), BAD);
        due("6 stays", x.node(6, 0), 7);
        due("7 stays", x.node(7, 0), 7);
        due("3's first", x.node(3, 2), 6);
        due("4 is got", x.refine(6, WEAKER, 0), 4);
        due("5 is got first", x.refine(7, ALTERNATIVE, 0), 5);
        due("then 8", x.node(7, 3), 8);
        due("9", x.refine(2, NARROWER, 0), 9);
        due("4, 5, 6, 7 and 8", x.prune(3), 5);
        due("9 stays", x.node(9, 0), 0);
    }

    private static void pruneRefused() {
        test("BAD when there is no such node; NO when it is not refined (prune)");
        RefinementBench x = new RefinementBench();
        due("no nodes yet", x.prune(1), BAD);
        x.begin(7);
        due("not refined", x.prune(1), NO);
        for (int i = 1; i < 16; i++) {
            x.refine(i, NARROWER, 7);
        }
        due("0", x.prune(0), BAD);
        due("-1", x.prune(-1), BAD);
        due("17", x.prune(17), BAD);
        for (int node : FAR) {
            due("node " + node, x.prune(node), BAD);
        }
        due("16 is not refined", x.prune(16), NO);
        due("none went", x.open(), 1);
        due("15 is", x.prune(15), 1);
        due("16 went", x.prune(16), BAD);
        due("not twice", x.prune(15), NO);
    }

    private static void nodeWhat() {
        test("its frame (what = 0), its law (1), its first child (2), its second one (3),"
            + " how many conditions it has (4)");
        int[][] wants = {{6, SKIP, 0, 0, 1, 0}, {6, ASSIGN, 0, 0, 1, 0}, {6, SEQUENCE, 2, 3, 0, 1},
            {6, ALTERNATIVE, 2, 3, 0, 1}, {6, LOOP, 2, 0, 2, 0}, {6, STRONGER, 2, 0, 1, 0}, {6, WEAKER, 2, 0, 1, 0},
            {6, NARROWER, 2, 0, 0, 1}};
        RefinementBench x = new RefinementBench();
        for (int law = SKIP; law <= NARROWER; law++) {
            x.begin(6);
            x.refine(1, law, 2);
            dueNode(x, 1, wants[law - 1]);
        }
    }

    private static void nodeUnrefined() {
        test("0 when it is not refined; 0 for none");
        RefinementBench x = begun(0, "T", "T");
        dueNode(x, 1, 0, 0, 0, 0, 0, 0);
        x.refine(1, SEQUENCE, 0);
        dueNode(x, 2, 0, 0, 0, 0, 0, 0);
        dueNode(x, 3, 0, 0, 0, 0, 0, 0);
    }

    private static void nodeProved() {
        test("1 if they are all proved, or there are none, though it is refined (5)");
        RefinementBench x = begun(7, "T", "=a0");
        due("not refined", x.node(1, 5), 0);
        x.refine(1, SEQUENCE, 0);
        due("none", x.node(1, 5), 1);
        x.prune(1);
        due("not refined any more", x.node(1, 5), 0);
        x.refine(1, SKIP, 0);
        due("open", x.node(1, 5), 0);
        due("refuted", x.prove(1), 0);
        due("not proved", x.node(1, 5), 0);
        x.prune(1);
        x.refine(1, ASSIGN, 0);
        due("another one", x.node(1, 5), 0);
        due("valid", x.prove(1), 1);
        due("proved", x.node(1, 5), 1);
        x.prune(1);
        x.refine(1, ASSIGN, 0);
        due("a new one", x.node(1, 5), 0);
        x.prune(1);
        set(x, 1, "!T");
        x.refine(1, LOOP, 0);
        due("one of two is not valid", x.prove(1), 0);
        due("so not all are proved", x.node(1, 5), 0);
    }

    private static void nodeRefused() {
        test("BAD when there is no such node, or for another what");
        RefinementBench x = new RefinementBench();
        due("no nodes yet", x.node(1, 0), BAD);
        x.begin(7);
        for (int i = 1; i < 16; i++) {
            x.refine(i, NARROWER, 7);
        }
        due("16", x.node(16, 0), 7);
        for (int what = 0; what <= 5; what++) {
            due("node 0", x.node(0, what), BAD);
            due("node -1", x.node(-1, what), BAD);
            due("node 17", x.node(17, what), BAD);
        }
        for (int far : FAR) {
            due("node " + far, x.node(far, 0), BAD);
            due("what " + far, x.node(1, far), BAD);
        }
        due("what -1", x.node(1, -1), BAD);
        due("what 6", x.node(1, 6), BAD);
        due("what 6 of one that is not refined", x.node(16, 6), BAD);
        due("what -1 of one that is not refined", x.node(16, -1), BAD);
    }

    private static void textEnds() {
        test("Character i of a text of a node");
        RefinementBench x = begun(7, formula(60), "T");
        set(x, 0, formula(58));
        x.refine(1, ALTERNATIVE, 0);
        due("the first of one", x.text(1, 1, 0), 'T');
        due("behind the only one", x.text(1, 1, 1), BAD);
        due("before it", x.text(1, 1, -1), BAD);
        due("the first of 60", x.text(1, 0, 0), '!');
        due("the last of 60", x.text(1, 0, 59), 'T');
        due("behind the last of 60", x.text(1, 0, 60), BAD);
        due("the first of 120", x.text(3, 0, 0), '&');
        due("the last of 120", x.text(3, 0, 119), 'T');
        due("behind the last of 120", x.text(3, 0, 120), BAD);
        due("before the first of 120", x.text(3, 0, -1), BAD);
        for (int i : FAR) {
            due("i " + i, x.text(3, 0, i), BAD);
        }
    }

    private static void textRefused() {
        test("its pre (which = 0), its post (1), its first or second condition (2, 3). BAD when there is none such.");
        RefinementBench x = new RefinementBench();
        due("no nodes yet", x.text(1, 0, 0), BAD);
        begin(x, 7, "&TT", "T");
        int[] conditions = {1, 1, 0, 0, 2, 1, 1, 0};
        for (int law = SKIP; law <= NARROWER; law++) {
            due("no condition yet", x.text(1, 2, 0), BAD);
            due("no second condition yet", x.text(1, 3, 0), BAD);
            x.refine(1, law, 0);
            due("which -1", x.text(1, -1, 0), BAD);
            due("pre", x.text(1, 0, 0), '&');
            due("post", x.text(1, 1, 0), 'T');
            due("first, law " + law, x.text(1, 2, 0), conditions[law - 1] >= 1 ? '>' : BAD);
            due("second, law " + law, x.text(1, 3, 0), conditions[law - 1] == 2 ? '>' : BAD);
            due("which 4", x.text(1, 4, 0), BAD);
            x.prune(1);
        }
        for (int far : FAR) {
            due("node " + far, x.text(far, 0, 0), BAD);
            due("which " + far, x.text(1, far, 0), BAD);
        }
        due("node 0", x.text(0, 0, 0), BAD);
        due("node 2", x.text(2, 0, 0), BAD);
        due("node 17", x.text(17, 0, 0), BAD);
    }

    private static void programRefused() {
        test("NO when something is open, or there is no root");
        RefinementBench x = new RefinementBench();
        due("no root", x.program(), NO);
        x.begin(7);
        due("the root is open", x.program(), NO);
        x.refine(1, SEQUENCE, 0);
        x.refine(2, SKIP, 0);
        x.prove(2);
        due("one node is open", x.program(), NO);
        x.refine(3, SKIP, 0);
        due("one condition is open", x.program(), NO);
        x.prove(3);
        due("END", x.program(), 1);
        due("again", x.program(), 1);
        x.prune(3);
        due("one node is open again", x.program(), NO);
        set(x, 1, "=a1");
        x.begin(1);
        x.refine(1, ASSIGN, 0);
        due("refuted", x.prove(1), 0);
        due("its condition stays open", x.program(), NO);
    }

    /** An object whose program is an assignment of +a1 to a, a number of times, and END. */
    private static RefinementBench adder(int times) {
        RefinementBench x = begun(7, "T", "T");
        set(x, 3, "+a1");
        for (int i = 1; i < times; i++) {
            int node = i == 1 ? 1 : 2 * i - 1;
            due("sequence", x.refine(node, SEQUENCE, 0), 2 * i);
            x.refine(2 * i, ASSIGN, 0);
            x.prove(2 * i);
        }
        int last = times == 1 ? 1 : 2 * times - 1;
        x.refine(last, ASSIGN, 0);
        x.prove(last);
        return x;
    }

    private static void instructionEnds() {
        test("Of instruction i: 1 assignment, 2 ASK, 3 JUMP, 4 END (what = 0); the variable, or the instruction to"
            + " which it may go on; 0 for END (1).");
        RefinementBench x = adder(8);
        due("8 and END", x.program(), 9);
        for (int i = 0; i <= 7; i++) {
            due("an assignment", x.instruction(i, 0), 1);
            due("of a", x.instruction(i, 1), 0);
        }
        due("END", x.instruction(8, 0), 4);
        due("END's", x.instruction(8, 1), 0);
        x.begin(7);
        x.refine(1, ASSIGN, 2);
        x.prove(1);
        due("of c", x.instruction(0, 1), 2);
        askAndJump();
    }

    private static void askAndJump() {
        RefinementBench x = begun(7, "T", "T");
        x.refine(1, ALTERNATIVE, 0);
        x.refine(2, SKIP, 0);
        x.refine(3, ASSIGN, 1);
        x.prove(2);
        x.prove(3);
        int[] wants = {2, 2, 3, 3, 1, 1, 4, 0};
        for (int i = 0; i < 8; i++) {
            due("instruction(" + i / 2 + ", " + i % 2 + ")", x.instruction(i / 2, i % 2), wants[i]);
        }
        dueRun(x, new int[] {0, 5, 0, 9}, 2, 0, 5, 0, 1);
    }

    private static void instructionRefused() {
        test("BAD when there is none such (NO when there is no program), or for another what.");
        RefinementBench x = new RefinementBench();
        due("no root", x.instruction(0, 0), NO);
        x.begin(7);
        due("open", x.instruction(0, 1), NO);
        due("none such either", x.instruction(-1, 0), NO);
        due("another what either", x.instruction(0, 2), NO);
        x.refine(1, SKIP, 0);
        x.prove(1);
        due("-1", x.instruction(-1, 0), BAD);
        due("0", x.instruction(0, 0), 4);
        due("1", x.instruction(1, 0), BAD);
        due("1, 1", x.instruction(1, 1), BAD);
        due("what -1", x.instruction(0, -1), BAD);
        due("what 2", x.instruction(0, 2), BAD);
        for (int far : FAR) {
            due("instruction " + far, x.instruction(far, 0), BAD);
            due("what " + far, x.instruction(0, far), BAD);
        }
        x.prune(1);
        due("no program any more", x.instruction(0, 0), NO);
        RefinementBench longer = adder(2);
        longer.begin(7);
        longer.refine(1, SKIP, 0);
        longer.prove(1);
        due("what an earlier program had", longer.instruction(1, 0), BAD);
    }

    private static void runModulo() {
        test("THE PROGRAM is run with a, b, c (modulo 8)");
        RefinementBench x = begun(0, "T", "T");
        x.refine(1, SKIP, 0);
        x.prove(1);
        dueRun(x, new int[] {0, 7, 8, 1}, 0, 0, 7, 0, 1);
        dueRun(x, new int[] {8, 0, 7, 1}, 0, 0, 0, 7, 1);
        dueRun(x, new int[] {7, 8, 0, 1}, 0, 7, 0, 0, 1);
        dueRun(x, new int[] {-1, -7, -8, 1}, 0, 7, 1, 0, 1);
        dueRun(x, new int[] {-9, 9, 15, 1}, 0, 7, 1, 7, 1);
        dueRun(x, new int[] {16, -16, 1 << 30, 1}, 0, 0, 0, 0, 1);
        dueRun(x, new int[] {Integer.MIN_VALUE, Integer.MAX_VALUE, Integer.MIN_VALUE + 1, 1}, 0, 0, 7, 1, 1);
        dueRun(adder(1), new int[] {7, 0, 0, 1}, 1, 0, 0, 0, 1);
        dueRun(adder(1), new int[] {-1, 0, 0, 1}, 1, 0, 0, 0, 1);
        dueRun(adder(1), new int[] {Integer.MAX_VALUE, 0, 0, 1}, 1, 0, 0, 0, 1);
    }

    private static void runFuel() {
        test("until it comes to END, or has done fuel instructions: how many it did (END does not count)");
        RefinementBench x = adder(8);
        for (int fuel = 0; fuel <= 9; fuel++) {
            int done = Math.min(fuel, 8);
            dueRun(x, new int[] {0, 1, 2, fuel}, done, done % 8, 1, 2, fuel >= 8 ? 1 : 0);
        }
        dueRun(x, new int[] {3, 0, 0, 1000}, 8, 3, 0, 0, 1);
        RefinementBench y = begun(0, "T", "T");
        y.refine(1, SKIP, 0);
        y.prove(1);
        dueRun(y, new int[] {1, 2, 3, 0}, 0, 1, 2, 3, 1);
        RefinementBench endless = begun(7, "!T", "T");
        endless.refine(1, LOOP, 0);
        set(endless, 3, "+a1");
        endless.refine(2, ASSIGN, 0);
        endless.prove(1);
        endless.prove(2);
        dueRun(endless, new int[] {0, 0, 0, 1000}, 1000, 333 % 8, 0, 0, 0);
        dueRun(endless, new int[] {0, 0, 0, 999}, 999, 333 % 8, 0, 0, 0);
        dueRun(endless, new int[] {0, 0, 0, 998}, 998, 333 % 8, 0, 0, 0);
        dueRun(endless, new int[] {0, 0, 0, 997}, 997, 332 % 8, 0, 0, 0);
        dueRun(endless, new int[] {0, 0, 0, 1}, 1, 0, 0, 0, 0);
    }

    private static void runRefused() {
        test("NO when there is no program; BAD when fuel is not 0 .. 1000.");
        RefinementBench x = new RefinementBench();
        due("no root", x.run(0, 0, 0, 1), NO);
        due("nor fuel", x.run(0, 0, 0, -1), NO);
        x.begin(7);
        due("a node is open", x.run(0, 0, 0, 1), NO);
        x.refine(1, SKIP, 0);
        due("a condition is open", x.run(0, 0, 0, 1), NO);
        x.prove(1);
        due("-1", x.run(0, 0, 0, -1), BAD);
        due("0", x.run(0, 0, 0, 0), 0);
        due("1000", x.run(0, 0, 0, 1000), 0);
        due("1001", x.run(0, 0, 0, 1001), BAD);
        for (int fuel : FAR) {
            due("fuel " + fuel, x.run(0, 0, 0, fuel), fuel == 256 || fuel == 257 ? 0 : BAD);
        }
        x.prune(1);
        due("no program any more", x.run(0, 0, 0, 1), NO);
    }

    private static void afterOthers() {
        test("The number of variable v (0 .. 2) behind the latest run; v = 3: 1 if it came to END; BAD for others.");
        RefinementBench x = adder(2);
        dueRun(x, new int[] {4, 5, 6, 2}, 2, 6, 5, 6, 1);
        due("-1", x.after(-1), BAD);
        due("4", x.after(4), BAD);
        for (int v : FAR) {
            due("v " + v, x.after(v), BAD);
        }
        dueRun(x, new int[] {1, 2, 3, 1}, 1, 2, 2, 3, 0);
        due("BAD", x.run(7, 7, 7, -1), BAD);
        due("BAD", x.run(7, 7, 7, 1001), BAD);
        x.begin(7);
        due("NO", x.run(7, 7, 7, 1), NO);
        int[] stays = {2, 2, 3, 0};
        for (int v = 0; v <= 3; v++) {
            due("a refused run changes nothing", x.after(v), stays[v]);
        }
    }

    private static void afterBefore() {
        test("0 before");
        RefinementBench x = new RefinementBench();
        due("NO", x.run(7, 7, 7, 1), NO);
        x.begin(7);
        x.refine(1, SKIP, 0);
        x.prove(1);
        due("BAD", x.run(7, 7, 7, 1001), BAD);
        for (int v = 0; v <= 3; v++) {
            due("v " + v, x.after(v), 0);
        }
        due("-1", x.after(-1), BAD);
        due("4", x.after(4), BAD);
        x.run(7, 6, 5, 0);
        int[] wants = {7, 6, 5, 1};
        for (int v = 0; v <= 3; v++) {
            due("behind it", x.after(v), wants[v]);
        }
    }
}
