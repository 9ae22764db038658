/** Each promise of the document: ordinary inputs, the edges that it names, and wrong inputs. */
public final class PromisesTest extends Checks {
    public static void main(String[] args) {
        newObject();
        type();
        hold();
        holdWrong();
        begin();
        refineTexts();
        refineRefusals();
        refineRoom();
        prove();
        proveArithmetic();
        refuting();
        openAndFirst();
        prune();
        node();
        text();
        program();
        instruction();
        run();
        after();
        end("all promises are kept");
    }

    private static void newObject() {
        test("promise 1");
        RefinementBench x = new RefinementBench();
        due("open", x.open(), 0);
        due("first", x.first(), 0);
        due("program", x.program(), NO);
        due("instruction", x.instruction(0, 0), NO);
        due("run", x.run(1, 2, 3, 4), NO);
        for (int i = -1; i <= 17; i++) {
            due("node " + i, x.node(i, 0), BAD);
            due("text " + i, x.text(i, 0, 0), BAD);
            due("refine " + i, x.refine(i, SKIP, 0), BAD);
            due("prove " + i, x.prove(i), BAD);
            due("prune " + i, x.prune(i), BAD);
        }
        for (int i = 0; i < 5; i++) {
            due("refuting " + i, x.refuting(i), 0);
        }
        for (int i = 0; i < 4; i++) {
            due("after " + i, x.after(i), 0);
        }
        due("empty buffer", x.hold(0), -100);
        due("begin", x.begin(7), 1);
        dueText(x, 1, 0, "T");
        dueText(x, 1, 1, "T");
        due("the term is 0", x.refine(1, LOOP, 0), 2);
        dueText(x, 2, 0, "&&TT=0z");
        due("another object has no nodes", new RefinementBench().open(), 0);
    }

    private static void type() {
        test("promise 2");
        RefinementBench x = new RefinementBench();
        due("n 0", x.type('T', 0), BAD);
        due("n -1", x.type('T', -1), BAD);
        due("n 9", x.type('T', 9), BAD);
        due("n least", x.type('T', Integer.MIN_VALUE), BAD);
        due("32", x.type(32, 1), BAD);
        due("127", x.type(127, 1), BAD);
        due("0", x.type(0, 1), BAD);
        due("255", x.type(255, 1), BAD);
        due("high byte is 0", x.type('T', 2), BAD);
        due("low byte is 32", x.type('T' << 8 | 32, 2), BAD);
        due("all bits", x.type(-1L, 8), BAD);
        due("33", x.type(33, 1), 1);
        due("126", x.type(126, 1), 2);
        due("what BAD left", x.hold(0), -101);
        due("higher bytes do not count", x.type(0x2020202020202054L, 1), 1);
        due("T", x.hold(0), 1);
        due("nor do bits above them", x.type(0x8000000000000054L, 1), 1);
        due("T again", x.hold(0), 1);
        due("highest first", x.type('=' << 16 | 'a' << 8 | '7', 3), 3);
        due("behind", x.type('a', 1), 4);
        due("in order", x.hold(0), -103);
        typeFull();
    }

    private static void typeFull() {
        RefinementBench x = new RefinementBench();
        for (int i = 1; i <= 7; i++) {
            due("eights", x.type(0x2121212121212121L, 8), 8 * i);
        }
        due("61", x.type(0x2121212121L, 5), FULL);
        due("BAD before FULL", x.type(0x2121212120L, 5), BAD);
        due("60", x.type(0x21212154L, 4), 60);
        due("one more", x.type('T', 1), FULL);
        due("FULL left it", x.hold(0), 60);
        due("it is empty now", x.type('T', 1), 1);
        due("T", x.hold(0), 1);
    }

    private static void hold() {
        test("promise 3");
        RefinementBench x = new RefinementBench();
        put(x, "T");
        due("slot 4", x.hold(4), BAD);
        due("slot -1", x.hold(-1), BAD);
        due("slot largest", x.hold(Integer.MAX_VALUE), BAD);
        due("the buffer stays", x.hold(0), 1);
        due("and is empty then", x.hold(0), -100);
        for (String formula : new String[] {"T", "!T", "=ax", "<+a1*bc", "&T|T>T!T", ">=01<-a7x", "!!!=00"}) {
            for (int slot = 0; slot <= 2; slot++) {
                put(x, formula);
                due(formula, x.hold(slot), formula.length());
            }
            put(x, formula);
            due(formula + " is no term", x.hold(3), -100);
        }
        for (String term : new String[] {"0", "7", "a", "b", "c", "x", "+ab", "-*abx", "+-*12+ab*7c"}) {
            put(x, term);
            due(term, x.hold(3), term.length());
            put(x, term);
            due(term + " is no formula", x.hold(2), -100);
        }
        holdKeeps();
    }

    private static void holdKeeps() {
        RefinementBench x = new RefinementBench();
        set(x, 0, "=a1");
        set(x, 1, "=b2");
        set(x, 2, "=c3");
        put(x, "=a");
        due("wrong", x.hold(0), -102);
        due("wrong and empty", x.hold(0), -100);
        x.begin(7);
        dueText(x, 1, 0, "=a1");
        dueText(x, 1, 1, "=b2");
    }

    private static void holdWrong() {
        test("promise 3, wrong");
        String[] formulas = {"", "=", "=a", "=a8", "=a9", "=az", "=ay", "=ad", "=aA", "z", "a", "0", "Ta", "TT",
            "=abc", "!", "!!", "&", "&T", "&TTT", "&=a&", "=T", "=+a", "=+ab", "=+abT", "<ab<ab", "&<abx", "t", "X",
            "=a=", "|T", ">T", "+ab", "=a!", "=~~", "!a", "&Ta", "=--------T"};
        int[] places = {0, 1, 2, 2, 2, 2, 2, 2, 2, 0, 0, 0, 1, 1,
            3, 1, 2, 1, 2, 3, 3, 1, 3, 4, 4, 3, 4, 0, 0,
            2, 2, 2, 0, 2, 1, 1, 2, 9};
        RefinementBench x = new RefinementBench();
        for (int i = 0; i < formulas.length; i++) {
            put(x, formulas[i]);
            due(formulas[i], x.hold(i % 3), -100 - places[i]);
        }
        String[] terms = {"", "z", "8", "T", "+", "+a", "+az", "ab", "+abc", "-", "*1", "=ab", "+a=", "!a", "/ab", "A"};
        int[] termPlaces = {0, 0, 0, 0, 1, 2, 2, 1, 3, 1, 2, 0, 2, 0, 0, 0};
        for (int i = 0; i < terms.length; i++) {
            put(x, terms[i]);
            due(terms[i], x.hold(3), -100 - termPlaces[i]);
        }
    }

    private static void begin() {
        test("promise 4");
        RefinementBench x = new RefinementBench();
        due("frame -1", x.begin(-1), BAD);
        due("frame 8", x.begin(8), BAD);
        due("still no node", x.node(1, 0), BAD);
        for (int frame = 0; frame <= 7; frame++) {
            due("frame", x.begin(frame), 1);
            due("its frame", x.node(1, 0), frame);
        }
        set(x, 0, "=ax");
        set(x, 1, "=b+x1");
        dueText(x, 1, 0, "T");
        due("begin", x.begin(5), 1);
        dueText(x, 1, 0, "=ax");
        dueText(x, 1, 1, "=b+x1");
        due("sequence", x.refine(1, SEQUENCE, 0), 2);
        due("wrong begin", x.begin(9), BAD);
        due("leaves the nodes", x.node(3, 0), 5);
        put(x, "T");
        due("begin", x.begin(3), 1);
        due("all nodes go", x.node(2, 0), BAD);
        due("and the third", x.node(3, 0), BAD);
        due("the root is not refined", x.node(1, 1), 0);
        due("the buffer stays", x.hold(0), 1);
    }

    private static void refineTexts() {
        test("promise 5");
        String p = "=ax";
        String q = "=+ab-xa";
        dueStep(p, q, SKIP, 0, 7, "", "", "", "", ">=ax=+ab-xa", "");
        dueStep(p, q, ASSIGN, 0, 1, "", "", "", "", ">=ax=+*bcb-x*bc", "");
        dueStep(p, q, ASSIGN, 1, 2, "", "", "", "", ">=ax=+a*bc-xa", "");
        dueStep(p, q, ASSIGN, 2, 4, "", "", "", "", ">=ax=+ab-xa", "");
        dueStep(p, q, SEQUENCE, 9, 6, p, "<ab", "<ab", q, "", "");
        dueStep(p, q, ALTERNATIVE, -1, 0, "&=ax<ab", q, "&=ax!<ab", q, "", "");
        dueStep(p, q, LOOP, 5, 3, "&&<ab|T=b1=*bcz", "&<ab<*bcz", "", "", ">=ax<ab", ">&<ab!|T=b1=+ab-xa");
        dueStep(p, q, STRONGER, 0, 7, p, "<ab", "", "", "><ab=+ab-xa", "");
        dueStep(p, q, WEAKER, 0, 7, "<ab", q, "", "", ">=ax<ab", "");
        dueStep(p, q, NARROWER, 5, 7, p, q, "", "", "", "");
        dueStep(p, q, NARROWER, 0, 0, p, q, "", "", "", "");
        RefinementBench x = begun(7, p, q);
        x.refine(1, NARROWER, 5);
        due("the narrower frame", x.node(2, 0), 5);
        due("none that went is got back", x.refine(2, NARROWER, 7), NO);
        due("the frame itself", x.refine(2, NARROWER, 5), 3);
        due("no variable", x.refine(3, NARROWER, 0), 4);
        refineSlots();
    }

    /** Begins with p and q, refines the root and looks at all that came of it ("" for none). */
    private static void dueStep(String p, String q, int law, int v, int frame, String... texts) {
        RefinementBench x = begun(frame, p, q);
        set(x, 0, "<ab");
        set(x, 1, "|T=b1");
        set(x, 2, "=c7");
        set(x, 3, "*bc");
        boolean one = !texts[0].isEmpty();
        boolean two = !texts[2].isEmpty();
        due("law " + law, x.refine(1, law, v), one ? 2 : 0);
        due("its law", x.node(1, 1), law);
        due("first child", x.node(1, 2), one ? 2 : 0);
        due("second child", x.node(1, 3), two ? 3 : 0);
        due("conditions", x.node(1, 4), (texts[4].isEmpty() ? 0 : 1) + (texts[5].isEmpty() ? 0 : 1));
        due("frame of the first", x.node(2, 0), !one ? BAD : law == NARROWER ? v : frame);
        due("frame of the second", x.node(3, 0), two ? frame : BAD);
        dueText(x, 1, 0, p);
        dueText(x, 1, 1, q);
        dueText(x, 2, 0, texts[0]);
        dueText(x, 2, 1, texts[1]);
        dueText(x, 3, 0, texts[2]);
        dueText(x, 3, 1, texts[3]);
        dueText(x, 1, 2, texts[4]);
        dueText(x, 1, 3, texts[5]);
    }

    private static void refineSlots() {
        RefinementBench x = new RefinementBench();
        x.begin(7);
        set(x, 0, "=a1");
        x.refine(1, SEQUENCE, 0);
        set(x, 0, "=a2");
        dueText(x, 2, 1, "=a1");
        due("the second child", x.refine(3, SEQUENCE, 0), 4);
        dueText(x, 4, 0, "=a1");
        dueText(x, 4, 1, "=a2");
        dueText(x, 5, 0, "=a2");
        put(x, "T");
        x.refine(4, SKIP, 0);
        due("the buffer stays", x.hold(2), 1);
    }

    private static void refineRefusals() {
        test("promise 5, refusals");
        RefinementBench x = new RefinementBench();
        x.begin(5);
        for (int law : new int[] {-1, 0, 9, Integer.MIN_VALUE, Integer.MAX_VALUE}) {
            due("law " + law, x.refine(1, law, 0), BAD);
        }
        for (int node : new int[] {-1, 0, 2, 16, 17, Integer.MIN_VALUE, Integer.MAX_VALUE}) {
            due("node " + node, x.refine(node, SKIP, 0), BAD);
        }
        for (int v : new int[] {-1, 1, 3, 32, 34, -32, Integer.MIN_VALUE, Integer.MAX_VALUE}) {
            due("assign " + v, x.refine(1, ASSIGN, v), NO);
        }
        for (int u : new int[] {-1, 2, 3, 7, 8, 9, Integer.MIN_VALUE, Integer.MAX_VALUE}) {
            due("narrower " + u, x.refine(1, NARROWER, u), NO);
        }
        due("it is not refined", x.node(1, 1), 0);
        set(x, 3, "x");
        due("E is x", x.refine(1, ASSIGN, 0), NO);
        set(x, 3, "+1x");
        due("E has x", x.refine(1, ASSIGN, 0), NO);
        set(x, 0, "=ax");
        due("F0 has x", x.refine(1, ALTERNATIVE, 0), NO);
        set(x, 1, "!=xa");
        due("F1 has x", x.refine(1, LOOP, 0), NO);
        set(x, 1, "=ba");
        due("only F1 may not", x.refine(1, LOOP, 0), 2);
        dueText(x, 2, 0, "&&=ax=ba=+1xz");
        due("it is refined", x.refine(1, SKIP, 0), NO);
        due("it is refined, and there is no such law", x.refine(1, 9, 0), BAD);
        due("x in a sequence", x.refine(2, SEQUENCE, 0), 3);
        due("no loop in a loop", x.refine(3, LOOP, 0), NO);
        due("x in stronger", x.refine(3, STRONGER, 0), 5);
        due("nor in what came of it", x.refine(5, LOOP, 0), NO);
        due("x in weaker", x.refine(4, WEAKER, 0), 6);
        due("nor in the second", x.refine(6, LOOP, 0), NO);
        x.begin(7);
        due("two loops", x.refine(1, SEQUENCE, 0), 2);
        due("the first one", x.refine(2, LOOP, 0), 4);
        due("the second one", x.refine(3, LOOP, 0), 5);
    }

    private static void refineRoom() {
        test("promise 5, room");
        RefinementBench x = new RefinementBench();
        x.begin(7);
        for (int i = 0; i < 7; i++) {
            due("sequence", x.refine(i + 1, SEQUENCE, 0), 2 * i + 2);
        }
        due("15 nodes", x.refine(8, SEQUENCE, 0), FULL);
        due("one more is a node too many", x.refine(8, ALTERNATIVE, 0), FULL);
        due("not refined", x.node(8, 1), 0);
        due("16", x.refine(8, WEAKER, 0), 16);
        due("17", x.refine(16, WEAKER, 0), FULL);
        due("no child", x.refine(16, SKIP, 0), 0);
        due("NO before FULL", x.refine(9, NARROWER, 8), NO);
        refineRoomOfTexts();
        refineRoomOfAssign();
        refineRoomOfSteps();
    }

    private static void refineRoomOfTexts() {
        RefinementBench x = new RefinementBench();
        set(x, 0, formula(60));
        set(x, 1, formula(60));
        x.begin(7);
        due("121 for skip", x.refine(1, SKIP, 0), FULL);
        due("121 for assign", x.refine(1, ASSIGN, 0), FULL);
        due("121 for alternative", x.refine(1, ALTERNATIVE, 0), FULL);
        due("121 for stronger", x.refine(1, STRONGER, 0), FULL);
        due("121 for weaker", x.refine(1, WEAKER, 0), FULL);
        due("121 for loop", x.refine(1, LOOP, 0), FULL);
        set(x, 0, formula(58));
        due("the second child of 120", x.refine(1, ALTERNATIVE, 0), 2);
        due("its pre", x.text(3, 0, 119), 'T');
        x.prune(1);
        set(x, 0, formula(59));
        due("the second child of 121", x.refine(1, ALTERNATIVE, 0), FULL);
        due("120 for stronger", x.refine(1, STRONGER, 0), 2);
        due("120 for skip", x.refine(2, SKIP, 0), 0);
        set(x, 0, "T");
        set(x, 1, formula(57));
        x.begin(7);
        set(x, 1, formula(60));
        due("a loop's second condition of 121", x.refine(1, LOOP, 0), FULL);
        set(x, 1, formula(56));
        x.begin(7);
        set(x, 1, formula(60));
        due("a loop's second condition of 120", x.refine(1, LOOP, 0), 2);
        dueText(x, 1, 3, ">&T!" + formula(60) + formula(56));
        refineRoomOfLoop();
    }

    private static void refineRoomOfLoop() {
        RefinementBench x = new RefinementBench();
        x.begin(7);
        set(x, 0, formula(60));
        set(x, 1, formula(55));
        due("a loop's pre of 120", x.refine(1, LOOP, 0), 2);
        dueText(x, 2, 0, "&&" + formula(60) + formula(55) + "=0z");
        x.begin(7);
        set(x, 1, formula(56));
        due("a loop's pre of 121", x.refine(1, LOOP, 0), FULL);
        set(x, 0, formula(58));
        set(x, 1, "T");
        set(x, 3, "+" + "-a".repeat(28) + "ab");
        due("a loop's post of 120 and pre of 122", x.refine(1, LOOP, 0), FULL);
        set(x, 3, "+" + "-a".repeat(27) + "ab");
        due("a loop's pre of 120", x.refine(1, LOOP, 0), 2);
    }

    private static void refineRoomOfAssign() {
        RefinementBench x = new RefinementBench();
        set(x, 1, "=+ab+aa");
        x.begin(7);
        set(x, 3, "+" + "+1".repeat(18) + "12");
        due("three times 39", x.refine(1, ASSIGN, 0), FULL);
        due("not refined", x.node(1, 1), 0);
        set(x, 3, "+" + "+1".repeat(17) + "12");
        due("three times 37", x.refine(1, ASSIGN, 0), 0);
        due("117", x.text(1, 2, 116), '2');
        due("and no more", x.text(1, 2, 117), BAD);
        set(x, 1, "&&T!T=" + "+a".repeat(26) + "ab");
        x.begin(7);
        set(x, 3, "+" + "+b".repeat(28) + "bc");
        due("far too long", x.refine(1, ASSIGN, 0), FULL);
        due("not where it is not", x.refine(1, ASSIGN, 2), 0);
        due("as long as it was", x.text(1, 2, 61), 'b');
        set(x, 0, formula(60));
        set(x, 1, "=ab");
        x.begin(7);
        set(x, 3, "+" + "+b".repeat(27) + "bc");
        due("1 + 60 + 57 + 2", x.refine(1, ASSIGN, 0), 0);
        due("the last one", x.text(1, 2, 119), 'b');
        x.begin(7);
        set(x, 3, "+" + "+b".repeat(28) + "bc");
        due("1 + 60 + 59 + 2", x.refine(1, ASSIGN, 0), FULL);
    }

    private static void refineRoomOfSteps() {
        RefinementBench x = new RefinementBench();
        x.begin(7);
        for (int i = 0; i < 30; i++) {
            due("refinement " + i, x.refine(1, SKIP, 0), 0);
            x.prune(1);
            due("one that is not made", x.refine(1, NARROWER, 8), NO);
        }
        x.begin(7);
        for (int i = 30; i < 48; i++) {
            due("refinement " + i, x.refine(1, SKIP, 0), 0);
            x.prune(1);
        }
        due("refinement 48", x.refine(1, SKIP, 0), FULL);
        due("NO before FULL", x.refine(1, NARROWER, 8), NO);
        due("not refined", x.node(1, 1), 0);
        x.begin(7);
        due("in all", x.refine(1, SKIP, 0), FULL);
    }

    private static void prove() {
        test("promise 6");
        RefinementBench x = new RefinementBench();
        x.begin(7);
        for (int node : new int[] {-1, 0, 2, 16, 17, Integer.MIN_VALUE, Integer.MAX_VALUE}) {
            due("node " + node, x.prove(node), BAD);
        }
        due("not refined", x.prove(1), NO);
        due("no condition", x.refine(1, SEQUENCE, 0), 2);
        due("all of none", x.prove(1), 1);
        dueRefuted("=ab", "=bx", "00010");
        dueRefuted("T", "!=*a*bc6", "11600");
        dueRefuted("T", "!&=a7&=b7&=c7=x7", "77770");
        dueRefuted("=a5", "!=x3", "50030");
        dueRefuted("!T", "=01", "");
        dueRefuted("=ax", "=xa", "");
        dueRefuted("T", "!T", "00000");
        proveLoop();
        proveSecond();
    }

    /** The conditions of what came of a loop have z, the least of which counts last. */
    private static void proveLoop() {
        RefinementBench x = new RefinementBench();
        x.begin(7);
        set(x, 1, "!=a3");
        set(x, 3, "-3a");
        x.refine(1, LOOP, 0);
        due("loop", x.prove(1), 1);
        set(x, 3, "+a1");
        x.refine(2, ASSIGN, 0);
        due("it comes nearer", x.prove(2), 1);
        x.prune(2);
        set(x, 3, "+a2");
        x.refine(2, ASSIGN, 0);
        due("it steps over the end", x.prove(2), 0);
        dueState(x, "20001");
        x.prune(2);
        x.refine(2, SKIP, 0);
        due("it stays where it is", x.prove(2), 0);
        dueState(x, "00003");
        x.prune(2);
        set(x, 0, "=a1");
        x.refine(2, STRONGER, 0);
        due("z may be 0, 1 and 2", x.prove(2), 0);
        dueState(x, "10000");
        set(x, 0, "T");
        set(x, 3, "-5x");
        x.begin(7);
        x.refine(1, LOOP, 0);
        x.refine(2, SKIP, 0);
        due("x comes before z", x.prove(2), 0);
        dueState(x, "00005");
    }

    /** The first condition that is not valid is the one that counts, and all are proved together. */
    private static void proveSecond() {
        RefinementBench x = new RefinementBench();
        set(x, 0, "=a1");
        set(x, 1, "=b2");
        x.begin(7);
        set(x, 0, "T");
        set(x, 1, "!=a7");
        x.refine(1, LOOP, 0);
        due("the second one is not valid", x.prove(1), 0);
        dueState(x, "70000");
        due("none is proved then", x.node(1, 5), 0);
        due("both are open", x.open(), 3);
        x.prune(1);
        set(x, 0, "=c6");
        x.refine(1, LOOP, 0);
        due("both are not valid", x.prove(1), 0);
        dueState(x, "10000");
        x.prune(1);
        set(x, 0, "<a2");
        set(x, 1, "!&=a1=b2");
        x.refine(1, LOOP, 0);
        due("both are valid", x.prove(1), 1);
        due("proved", x.node(1, 5), 1);
        due("once more", x.prove(1), 1);
    }

    private static void dueRefuted(String p, String q, String state) {
        RefinementBench x = new RefinementBench();
        set(x, 0, p);
        set(x, 1, q);
        x.begin(0);
        x.refine(1, SKIP, 0);
        due(p + " so " + q, x.prove(1), state.isEmpty() ? 1 : 0);
        due("proved", x.node(1, 5), state.isEmpty() ? 1 : 0);
        dueState(x, state.isEmpty() ? "00000" : state);
    }

    /** All pairs of numbers under all operators, each told by one refuting state. */
    private static void proveArithmetic() {
        test("promise 6, numbers");
        for (int i = 0; i < 8; i++) {
            for (int j = 0; j < 8; j++) {
                dueNumber("+", i, j, (i + j) % 8);
                dueNumber("-", i, j, (i - j + 8) % 8);
                dueNumber("*", i, j, i * j % 8);
                dueRefuted("T", "!<" + i + j, i < j ? "00000" : "");
                dueRefuted("T", "!=" + i + j, i == j ? "00000" : "");
                dueRefuted("&=a" + i + "=x" + j, "!<ax", i < j ? "" + i + "00" + j + "0" : "");
                dueRefuted("&=b" + i + "=c" + j, "!=bc", i == j ? "0" + i + j + "00" : "");
            }
        }
        String[] truths = {"!T", "T"};
        for (int i = 0; i < 2; i++) {
            for (int j = 0; j < 2; j++) {
                dueRefuted("T", "&" + truths[i] + truths[j], i == 1 && j == 1 ? "" : "00000");
                dueRefuted("T", "|" + truths[i] + truths[j], i == 1 || j == 1 ? "" : "00000");
                dueRefuted("T", ">" + truths[i] + truths[j], i == 0 || j == 1 ? "" : "00000");
            }
        }
    }

    private static void dueNumber(String operator, int i, int j, int number) {
        dueRefuted("T", "!=a" + operator + i + j, number + "0000");
        dueRefuted("&=b" + i + "=c" + j, "!=x" + operator + "bc", "0" + i + j + number + "0");
        dueRefuted("&=x" + i + "=a" + j, "!=c" + operator + "xa", j + "0" + number + i + "0");
    }

    private static void refuting() {
        test("promise 7");
        RefinementBench x = new RefinementBench();
        for (int what : new int[] {-1, 5, Integer.MIN_VALUE, Integer.MAX_VALUE}) {
            due("what " + what, x.refuting(what), BAD);
        }
        set(x, 0, "&&=a6=b5&=c4=x3");
        set(x, 1, "!T");
        x.begin(1);
        x.refine(1, SKIP, 0);
        dueState(x, "00000");
        due("prove", x.prove(1), 0);
        dueState(x, "65430");
        x.prune(1);
        x.refine(1, SEQUENCE, 0);
        due("prove", x.prove(1), 1);
        dueState(x, "65430");
        due("prove", x.prove(3), NO);
        due("prove", x.prove(4), BAD);
        x.begin(1);
        dueState(x, "65430");
        set(x, 0, "T");
        set(x, 1, "=a0");
        x.begin(1);
        x.refine(1, SKIP, 0);
        due("prove", x.prove(1), 0);
        dueState(x, "10000");
        refutingOfZ();
    }

    private static void refutingOfZ() {
        RefinementBench x = new RefinementBench();
        x.begin(7);
        set(x, 0, "=x3");
        set(x, 1, "=b2");
        set(x, 3, "+x+a1");
        x.refine(1, LOOP, 0);
        set(x, 3, "3");
        x.refine(2, ASSIGN, 0);
        due("least a, b, c, x, then z", x.prove(2), 0);
        dueState(x, "02034");
        x.prune(2);
        set(x, 3, "5");
        x.refine(2, ASSIGN, 0);
        due("1 is not less than 0", x.prove(2), 0);
        dueState(x, "42030");
    }

    private static void openAndFirst() {
        test("promises 8 and 9");
        RefinementBench x = new RefinementBench();
        x.begin(7);
        dueOpen(x, 1, 1);
        x.refine(1, SEQUENCE, 0);
        dueOpen(x, 2, 2);
        x.refine(3, SKIP, 0);
        dueOpen(x, 2, 2);
        x.refine(2, SKIP, 0);
        dueOpen(x, 2, 2);
        x.prove(2);
        dueOpen(x, 1, 3);
        x.prove(3);
        dueOpen(x, 0, 0);
        x.prune(3);
        dueOpen(x, 1, 3);
        x.refine(3, SKIP, 0);
        dueOpen(x, 1, 3);
        x.begin(7);
        dueOpen(x, 1, 1);
        x.refine(1, LOOP, 0);
        dueOpen(x, 3, 1);
        x.prove(1);
        dueOpen(x, 1, 2);
        x.refine(2, STRONGER, 0);
        dueOpen(x, 2, 2);
        x.refine(3, NARROWER, 7);
        dueOpen(x, 2, 2);
        set(x, 0, "!T");
        x.refine(4, WEAKER, 0);
        dueOpen(x, 3, 2);
        x.prove(4);
        dueOpen(x, 3, 2);
    }

    private static void prune() {
        test("promise 10");
        RefinementBench x = new RefinementBench();
        x.begin(7);
        due("not refined", x.prune(1), NO);
        for (int node : new int[] {-1, 0, 2, 17, Integer.MIN_VALUE, Integer.MAX_VALUE}) {
            due("node " + node, x.prune(node), BAD);
        }
        due("1: 2 3", x.refine(1, SEQUENCE, 0), 2);
        due("2: 4 5", x.refine(2, SEQUENCE, 0), 4);
        due("3: 6", x.refine(3, WEAKER, 0), 6);
        due("4: 7", x.refine(4, STRONGER, 0), 7);
        due("5:", x.refine(5, SKIP, 0), 0);
        due("6: 8 9", x.refine(6, SEQUENCE, 0), 8);
        due("4, 5 and 7 go", x.prune(2), 3);
        due("2 is not refined", x.node(2, 1), 0);
        due("and has no child", x.node(2, 2), 0);
        for (int node = 1; node <= 10; node++) {
            boolean gone = node == 4 || node == 5 || node == 7 || node == 10;
            due("node " + node, x.node(node, 0), gone ? BAD : 7);
        }
        due("the least are got", x.refine(9, SEQUENCE, 0), 4);
        due("and the next", x.node(9, 3), 5);
        due("7 and then 10", x.refine(8, ALTERNATIVE, 0), 7);
        due("that is 10", x.node(8, 3), 10);
        due("what has less numbers goes too", x.prune(3), 7);
        due("3 stays", x.node(3, 1), 0);
        due("2 stays", x.node(2, 0), 7);
        due("the root's", x.prune(1), 2);
        due("not twice", x.prune(1), NO);
        due("no child", x.refine(1, SKIP, 0), 0);
        due("none goes", x.prune(1), 0);
        pruneUnproves();
    }

    private static void pruneUnproves() {
        RefinementBench x = new RefinementBench();
        x.begin(7);
        x.refine(1, SKIP, 0);
        x.prove(1);
        x.prune(1);
        due("not proved any more", x.node(1, 5), 0);
        x.refine(1, SKIP, 0);
        due("nor when it is refined again", x.node(1, 5), 0);
        x.prune(1);
        x.refine(1, LOOP, 0);
        due("no loop in a loop", x.refine(2, LOOP, 0), NO);
        x.prune(1);
        x.refine(1, WEAKER, 0);
        due("the loop is gone", x.refine(2, LOOP, 0), 3);
    }

    private static void node() {
        test("promise 11");
        RefinementBench x = new RefinementBench();
        x.begin(6);
        for (int node : new int[] {-1, 0, 2, 16, 17, Integer.MIN_VALUE, Integer.MAX_VALUE}) {
            for (int what = 0; what <= 5; what++) {
                due("node " + node, x.node(node, what), BAD);
            }
        }
        for (int what : new int[] {-1, 6, Integer.MIN_VALUE, Integer.MAX_VALUE}) {
            due("what " + what, x.node(1, what), BAD);
        }
        dueNode(x, 1, 6, 0, 0, 0, 0, 0);
        x.refine(1, SEQUENCE, 0);
        dueNode(x, 1, 6, SEQUENCE, 2, 3, 0, 1);
        x.refine(2, NARROWER, 4);
        dueNode(x, 2, 6, NARROWER, 4, 0, 0, 1);
        dueNode(x, 4, 4, 0, 0, 0, 0, 0);
        x.refine(3, LOOP, 0);
        dueNode(x, 3, 6, LOOP, 5, 0, 2, 0);
        x.prove(3);
        dueNode(x, 3, 6, LOOP, 5, 0, 2, 1);
        x.refine(4, ASSIGN, 2);
        dueNode(x, 4, 4, ASSIGN, 0, 0, 1, 0);
        x.prove(4);
        dueNode(x, 4, 4, ASSIGN, 0, 0, 1, 1);
        x.refine(5, ALTERNATIVE, 0);
        dueNode(x, 5, 6, ALTERNATIVE, 6, 7, 0, 1);
        x.refine(6, STRONGER, 0);
        dueNode(x, 6, 6, STRONGER, 8, 0, 1, 0);
        x.refine(7, WEAKER, 0);
        dueNode(x, 7, 6, WEAKER, 9, 0, 1, 0);
        x.refine(8, SKIP, 0);
        dueNode(x, 8, 6, SKIP, 0, 0, 1, 0);
    }

    private static void text() {
        test("promise 12");
        RefinementBench x = new RefinementBench();
        set(x, 0, "=ax");
        set(x, 1, "<ab");
        x.begin(7);
        for (int node : new int[] {-1, 0, 2, 17, Integer.MIN_VALUE, Integer.MAX_VALUE}) {
            due("node " + node, x.text(node, 0, 0), BAD);
        }
        for (int which : new int[] {-1, 2, 3, 4, Integer.MIN_VALUE, Integer.MAX_VALUE}) {
            due("which " + which, x.text(1, which, 0), BAD);
        }
        for (int i : new int[] {-1, 3, Integer.MIN_VALUE, Integer.MAX_VALUE}) {
            due("i " + i, x.text(1, 0, i), BAD);
        }
        dueText(x, 1, 0, "=ax");
        dueText(x, 1, 1, "<ab");
        x.refine(1, SKIP, 0);
        dueText(x, 1, 2, ">=ax<ab");
        dueText(x, 1, 3, "");
        due("no third condition", x.text(1, 4, 0), BAD);
        x.prune(1);
        dueText(x, 1, 2, "");
        x.refine(1, LOOP, 0);
        dueText(x, 1, 2, ">=ax=ax");
        dueText(x, 1, 3, ">&=ax!<ab<ab");
    }

    private static void program() {
        test("promise 13");
        RefinementBench x = new RefinementBench();
        x.begin(7);
        due("a node is open", x.program(), NO);
        x.refine(1, SKIP, 0);
        due("a condition is open", x.program(), NO);
        x.prove(1);
        due("only END", x.program(), 1);
        x.prune(1);
        due("open again", x.program(), NO);
        x.refine(1, ASSIGN, 0);
        x.prove(1);
        due("assignment", x.program(), 2);
        x.begin(7);
        due("all nodes went", x.program(), NO);
        RefinementBench y = wholeProgram();
        due("all laws", y.program(), 8);
        due("not changed by asking", y.program(), 8);
        largestProgram();
        deepestProgram();
    }

    /** Fifteen steps, one below the other, and what is done comes of the last node. */
    private static void deepestProgram() {
        RefinementBench x = new RefinementBench();
        x.begin(7);
        for (int i = 1; i <= 15; i++) {
            due("narrower", x.refine(i, NARROWER, 7), i + 1);
        }
        dueOpen(x, 1, 16);
        set(x, 3, "-b*2c");
        x.refine(16, ASSIGN, 0);
        dueOpen(x, 1, 16);
        x.prove(16);
        due("program", x.program(), 2);
        dueRun(x, new int[] {0, 3, 5, 9}, 1, 1, 3, 5, 1);
        due("all but the root go", x.prune(1), 15);
        due("15 nodes", x.refine(1, NARROWER, 7), 2);
        for (int i = 2; i <= 15; i++) {
            due("again", x.refine(i, NARROWER, 7), i + 1);
        }
        x.begin(7);
        due("the last one goes too", x.node(16, 0), BAD);
    }

    /** Five alternatives with six parts, five of which are loops: as many instructions as there can be. */
    private static void largestProgram() {
        RefinementBench x = new RefinementBench();
        x.begin(7);
        set(x, 1, "!T");
        for (int i = 1; i <= 5; i++) {
            x.refine(i, ALTERNATIVE, 0);
        }
        for (int i = 6; i <= 10; i++) {
            due("loop", x.refine(i, LOOP, 0), i + 6);
        }
        for (int i = 11; i <= 16; i++) {
            due("assign", x.refine(i, ASSIGN, i % 3), 0);
        }
        for (int i = 1; i <= 16; i++) {
            due("prove", x.prove(i), 1);
        }
        due("27", x.program(), 27);
        due("END", x.instruction(26, 0), 4);
        due("none behind it", x.instruction(27, 0), BAD);
    }

    /** b:=1; if <a4 then (while !=a4 do a:=+a1) else (nothing; then a:=4), with the other laws between. */
    private static RefinementBench wholeProgram() {
        RefinementBench x = new RefinementBench();
        set(x, 1, "=a4");
        x.begin(7);
        set(x, 0, "T");
        due("sequence", x.refine(1, SEQUENCE, 0), 2);
        set(x, 3, "1");
        x.refine(2, ASSIGN, 1);
        set(x, 0, "T");
        due("weaker", x.refine(3, WEAKER, 0), 4);
        set(x, 0, "<a4");
        due("alternative", x.refine(4, ALTERNATIVE, 0), 5);
        set(x, 0, "<a5");
        set(x, 1, "!=a4");
        set(x, 3, "-4a");
        due("loop", x.refine(5, LOOP, 0), 7);
        due("narrower", x.refine(7, NARROWER, 1), 8);
        set(x, 3, "+a1");
        x.refine(8, ASSIGN, 0);
        set(x, 0, "=4a");
        due("stronger", x.refine(6, STRONGER, 0), 9);
        set(x, 0, "!<a4");
        due("sequence", x.refine(9, SEQUENCE, 0), 10);
        x.refine(10, SKIP, 0);
        set(x, 3, "4");
        x.refine(11, ASSIGN, 0);
        for (int i = 1; i <= 11; i++) {
            due("prove " + i, x.prove(i), 1);
        }
        return x;
    }

    private static void instruction() {
        test("promise 14");
        RefinementBench x = new RefinementBench();
        due("no program", x.instruction(0, 0), NO);
        x.begin(7);
        due("none yet", x.instruction(0, 1), NO);
        x.refine(1, SKIP, 0);
        due("not proved", x.instruction(0, 1), NO);
        due("nor one of this number", x.instruction(-1, 0), NO);
        x.prove(1);
        due("END", x.instruction(0, 0), 4);
        due("END's", x.instruction(0, 1), 0);
        due("behind END", x.instruction(1, 0), BAD);
        RefinementBench y = wholeProgram();
        int[] kinds = {1, 2, 2, 1, 3, 3, 1, 4};
        int[] goals = {1, 6, 5, 0, 2, 7, 0, 0};
        due("all", y.program(), kinds.length);
        for (int i = 0; i < kinds.length; i++) {
            due("kind of " + i, y.instruction(i, 0), kinds[i]);
            due("goal of " + i, y.instruction(i, 1), goals[i]);
        }
        for (int i : new int[] {-1, kinds.length, 33, Integer.MIN_VALUE, Integer.MAX_VALUE}) {
            due("instruction " + i, y.instruction(i, 0), BAD);
            due("instruction " + i, y.instruction(i, 1), BAD);
        }
        for (int what : new int[] {-1, 2, Integer.MIN_VALUE, Integer.MAX_VALUE}) {
            due("what " + what, y.instruction(0, what), BAD);
        }
    }

    private static void run() {
        test("promise 15");
        RefinementBench x = new RefinementBench();
        due("no program", x.run(0, 0, 0, 1), NO);
        due("NO before BAD", x.run(0, 0, 0, -1), NO);
        x.begin(7);
        x.refine(1, SKIP, 0);
        due("not proved", x.run(0, 0, 0, 1), NO);
        x.prove(1);
        dueRun(x, new int[] {1, 2, 3, 0}, 0, 1, 2, 3, 1);
        dueRun(x, new int[] {-1, -8, 17, 1000}, 0, 7, 0, 1, 1);
        dueRun(x, new int[] {Integer.MAX_VALUE, Integer.MIN_VALUE, -9, 5}, 0, 7, 0, 7, 1);
        for (int fuel : new int[] {-1, 1001, Integer.MIN_VALUE, Integer.MAX_VALUE}) {
            due("fuel " + fuel, x.run(0, 0, 0, fuel), BAD);
        }
        RefinementBench y = wholeProgram();
        dueRun(y, new int[] {0, 0, 5, 1000}, 16, 4, 1, 5, 1);
        dueRun(y, new int[] {0, 0, 5, 16}, 16, 4, 1, 5, 1);
        dueRun(y, new int[] {0, 0, 5, 15}, 15, 4, 1, 5, 0);
        dueRun(y, new int[] {0, 7, 5, 0}, 0, 0, 7, 5, 0);
        dueRun(y, new int[] {0, 7, 5, 1}, 1, 0, 1, 5, 0);
        dueRun(y, new int[] {0, 7, 5, 4}, 4, 1, 1, 5, 0);
        dueRun(y, new int[] {3, 0, 0, 99}, 7, 4, 1, 0, 1);
        dueRun(y, new int[] {4, 0, 0, 99}, 3, 4, 1, 0, 1);
        dueRun(y, new int[] {7, 0, 0, 2}, 2, 7, 1, 0, 0);
        dueRun(y, new int[] {15, 8, 9, 3}, 3, 4, 1, 1, 1);
        runEndless();
    }

    /** A loop with a pre that never holds may do anything; only the fuel ends it. */
    private static void runEndless() {
        RefinementBench x = new RefinementBench();
        set(x, 0, "!T");
        x.begin(7);
        set(x, 1, "T");
        due("loop", x.refine(1, LOOP, 0), 2);
        set(x, 3, "+c3");
        x.refine(2, ASSIGN, 2);
        x.prove(1);
        x.prove(2);
        due("program", x.program(), 4);
        dueRun(x, new int[] {1, 2, 0, 1000}, 1000, 1, 2, 333 * 3 % 8, 0);
        dueRun(x, new int[] {1, 2, 0, 2}, 2, 1, 2, 3, 0);
    }

    private static void after() {
        test("promise 16");
        RefinementBench x = new RefinementBench();
        x.begin(7);
        x.run(1, 2, 3, 4);
        for (int v = 0; v <= 3; v++) {
            due("before", x.after(v), 0);
        }
        for (int v : new int[] {-1, 4, Integer.MIN_VALUE, Integer.MAX_VALUE}) {
            due("after " + v, x.after(v), BAD);
        }
        x.refine(1, SKIP, 0);
        x.prove(1);
        x.run(1, 2, 3, 4);
        x.run(6, 6, 6, 1001);
        x.prune(1);
        x.run(5, 5, 5, 5);
        x.begin(0);
        due("a", x.after(0), 1);
        due("b", x.after(1), 2);
        due("c", x.after(2), 3);
        due("it came to END", x.after(3), 1);
    }
}
