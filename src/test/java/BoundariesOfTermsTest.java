/** Each sentence of the document's terms that names a boundary: at the boundary and beyond it. */
public final class BoundariesOfTermsTest extends Checks {
    public static void main(String[] args) {
        calls();
        numbers();
        numbersModulo();
        comparedNumbers();
        variables();
        terms();
        formulas();
        buffer();
        emptiedBuffer();
        stayingBuffer();
        wrongAtFirst();
        wrongAtEnd();
        nothingHasZ();
        formulaSlots();
        termSlot();
        frame();
        numbering();
        substitution();
        assignFrame();
        assignTerm();
        alternativeFormula();
        loopFormula();
        loopInLoop();
        narrower();
        nodes();
        nodesWithTwo();
        nodesAfterPrune();
        longSkip();
        longAssign();
        longAlternative();
        longLoopPre();
        longLoopConditions();
        longStronger();
        longWeaker();
        longPassedOn();
        tooLongChangesNothing();
        refinements();
        refinementsNotMade();
        refinementsInAll();
        valid();
        openUntilProved();
        programOfSkip();
        programOfAsks();
        askedVariables();
        deepestProgram();
        end("all boundaries of the terms are kept");
    }

    private static void calls() {
        test("An object is used for at most 512 calls after it has been made");
        RefinementBench x = new RefinementBench();
        x.begin(7);
        x.refine(1, SKIP, 0);
        for (int i = 3; i < 511; i++) {
            due("call " + i, x.prove(1), 1);
        }
        due("call 511", x.run(9, 0, 0, 1000), 0);
        due("call 512", x.after(0), 1);
    }

    private static void numbers() {
        test("NUMBERS are 0 .. 7");
        dueHold(3, "0", 1);
        dueHold(3, "7", 1);
        dueHold(3, "/", -100);
        dueHold(3, "8", -100);
        dueHold(3, "9", -100);
        dueHold(0, "=07", 3);
        dueHold(0, "=08", -102);
        dueHold(0, "=80", -101);
        dueValid("<a0", false);
        dueValid("|<a7=a7", true);
    }

    /** What a new object answers when it holds this text in a slot. */
    private static void dueHold(int slot, String text, int want) {
        RefinementBench x = new RefinementBench();
        put(x, text);
        due(text + " in slot " + slot, x.hold(slot), want);
    }

    /** Whether a formula holds in all states. */
    private static void dueValid(String formula, boolean want) {
        RefinementBench x = begun(0, "T", formula);
        due("skip", x.refine(1, SKIP, 0), 0);
        due(formula + " is valid", x.prove(1), want ? 1 : 0);
    }

    private static void numbersModulo() {
        test("sums, differences and products are taken modulo 8");
        for (int i = 0; i < 8; i++) {
            for (int j = 0; j < 8; j++) {
                dueNumber("+" + i + j, (i + j) % 8);
                dueNumber("-" + i + j, (8 + i - j) % 8);
                dueNumber("*" + i + j, i * j % 8);
            }
        }
        dueNumber("+7+71", 7);
        dueNumber("-0-01", 1);
        dueNumber("*3*33", 3);
        dueNumber("-+774", 2);
        dueNumber("+*771", 2);
        dueAssigned("+a1", 0);
        dueAssigned("-ba", 1);
        dueAssigned("*aa", 1);
        dueAssigned("-bc", 5);
    }

    private static void dueNumber(String term, int number) {
        dueValid("=" + number + term, true);
        dueValid("=" + (number + 1) % 8 + term, false);
        dueAssigned(term, number);
    }

    /** The number that c gets of a term when a is 7, b is 0 and c is 3. */
    private static void dueAssigned(String term, int number) {
        RefinementBench x = begun(4, "T", "T");
        set(x, 3, term);
        x.refine(1, ASSIGN, 2);
        x.prove(1);
        dueRun(x, new int[] {7, 0, 3, 1}, 1, 7, 0, number, 1);
    }

    private static void comparedNumbers() {
        test("= or < and two terms");
        dueValid("<00", false);
        dueValid("<01", true);
        dueValid("<10", false);
        dueValid("<67", true);
        dueValid("<77", false);
        dueValid("<70", false);
        dueValid("<+711", true);
        dueValid("<-010", false);
        dueValid("<7-01", false);
        dueValid("=+710", true);
        dueValid("=-017", true);
        dueValid("=70", false);
    }

    private static void variables() {
        test("VARIABLES are a, b, c.");
        for (String name : new String[] {"a", "b", "c", "x"}) {
            dueHold(3, name, 1);
            dueHold(0, "=" + name + name, 3);
        }
        for (String name : new String[] {"`", "d", "w", "y", "z", "A", "C", "X"}) {
            dueHold(3, name, -100);
            dueHold(0, "=" + name + name, -101);
        }
    }

    private static void terms() {
        test("A TERM is a digit 0 .. 7, a variable, a constant, or + - * and two terms.");
        for (char next = 33; next <= 126; next++) {
            boolean whole = "01234567abcx".indexOf(next) >= 0;
            boolean begins = "+-*".indexOf(next) >= 0;
            dueHold(3, "" + next, whole ? 1 : begins ? -101 : -100);
            dueHold(3, "+" + next, whole || begins ? -102 : -101);
            dueHold(3, "-a" + next, whole ? 3 : begins ? -103 : -102);
            dueHold(3, "a" + next, -101);
            dueHold(3, "*ab" + next, -103);
            dueHold(0, "=" + next, whole || begins ? -102 : -101);
            dueHold(1, "<0" + next, whole ? 3 : begins ? -103 : -102);
            // A formula is wanted too here, but not before the terms.
            dueHold(0, "&=" + next, whole || begins ? -103 : -102);
            dueHold(0, "&=a" + next, whole || begins ? -104 : -103);
        }
    }

    private static void formulas() {
        test("A FORMULA is T (which is true), = or < and two terms, ! and a formula, & | > and two formulas");
        for (char next = 33; next <= 126; next++) {
            boolean begins = "=<!&|>".indexOf(next) >= 0;
            for (int slot = 0; slot <= 2; slot++) {
                dueHold(slot, "" + next, next == 'T' ? 1 : begins ? -101 : -100);
            }
            dueHold(0, "!" + next, next == 'T' ? 2 : begins ? -102 : -101);
            dueHold(1, "&" + next, next == 'T' || begins ? -102 : -101);
            dueHold(2, "|=ab" + next, next == 'T' ? 5 : begins ? -105 : -104);
            dueHold(0, ">T" + next, next == 'T' ? 3 : begins ? -103 : -102);
            dueHold(0, "T" + next, -101);
            dueHold(0, "<ab" + next, -103);
        }
    }

    private static void buffer() {
        test("THE BUFFER has at most 60 characters.");
        for (int n = 1; n <= 8; n++) {
            RefinementBench x = typed(60 - n);
            due("to 60 by " + n, x.type(packed(formula(n)), n), 60);
            due("one more", x.type('T', 1), FULL);
            due("all 60", x.hold(0), 60);
            RefinementBench y = typed(61 - n);
            due("to 61 by " + n, y.type(packed(formula(n)), n), FULL);
            due("none of them came", y.hold(0), -100 - (61 - n));
        }
    }

    /** An object with so many ! in the buffer. */
    private static RefinementBench typed(int length) {
        RefinementBench x = new RefinementBench();
        for (int i = 1; i <= length; i++) {
            due("type", x.type('!', 1), i);
        }
        return x;
    }

    private static void emptiedBuffer() {
        test("Every call that reads it empties it.");
        for (int slot = 0; slot <= 3; slot++) {
            RefinementBench x = new RefinementBench();
            set(x, slot, slot == 3 ? "+a1" : "=ax");
            due("empty after a right text", x.hold(slot), -100);
            put(x, "!!~");
            due("wrong", x.hold(slot), slot == 3 ? -100 : -102);
            due("empty after a wrong text", x.type('!', 1), 1);
            due("more is wanted", x.hold(slot), slot == 3 ? -100 : -101);
            due("empty again", x.hold(slot), -100);
        }
        RefinementBench full = typed(60);
        due("all 60 are wrong", full.hold(1), -160);
        due("and went", full.type(packed("!!!!!!!T"), 8), 8);
    }

    private static void stayingBuffer() {
        test("BAD when there is no such slot (the buffer stays)");
        RefinementBench x = new RefinementBench();
        put(x, "=a");
        due("slot -1", x.hold(-1), BAD);
        due("slot 4", x.hold(4), BAD);
        due("it stays", x.type('b', 1), 3);
        x.begin(7);
        x.begin(8);
        x.refine(1, SKIP, 0);
        x.prove(1);
        x.program();
        x.run(1, 2, 3, 4);
        x.prune(1);
        x.type(' ', 1);
        due("only hold reads it", x.hold(0), 3);
    }

    private static void wrongAtFirst() {
        test("it is WRONG at the first place (how many characters before it) with whose character nothing that is"
            + " wanted goes on");
        dueHold(0, "~", -100);
        dueHold(0, "~~", -100);
        dueHold(0, "!~T~", -101);
        dueHold(0, "&T~", -102);
        dueHold(0, "TT", -101);
        dueHold(3, "00", -101);
        dueHold(0, formula(59) + "T", -159);
        dueHold(0, formula(60), 60);
        dueHold(0, "!".repeat(59) + "a", -159);
        dueHold(0, "!".repeat(58) + "a!", -158);
        dueHold(3, term(59), 59);
        dueHold(3, term(59) + "1", -159);
        dueHold(3, "+1".repeat(29) + "=1", -158);
    }

    private static void wrongAtEnd() {
        test("or at its end when more is wanted");
        dueHold(0, "", -100);
        dueHold(3, "", -100);
        dueHold(0, "!", -101);
        dueHold(0, "=a", -102);
        dueHold(0, "&=ab", -104);
        dueHold(3, "+", -101);
        dueHold(3, "+a", -102);
        dueHold(3, "+*ab", -104);
        dueHold(2, "!".repeat(59), -159);
        dueHold(2, "!".repeat(60), -160);
        dueHold(3, "+1".repeat(30), -160);
    }

    private static void nothingHasZ() {
        test("Nothing that is read has z.");
        dueHold(3, "z", -100);
        dueHold(3, "+z1", -101);
        dueHold(3, "+1z", -102);
        dueHold(0, "z", -100);
        dueHold(0, "=z0", -101);
        dueHold(1, "<0z", -102);
        dueHold(2, "&T=-zz0", -104);
        RefinementBench x = new RefinementBench();
        x.refine(x.begin(7), LOOP, 0);
        put(x, "&&TT=0z");
        due("nor when a node has it", x.hold(0), -106);
    }

    private static void formulaSlots() {
        test("SLOTS 0 .. 2 hold formulas (T at first)");
        RefinementBench x = new RefinementBench();
        x.begin(0);
        dueText(x, 1, 0, "T");
        dueText(x, 1, 1, "T");
        x.refine(1, LOOP, 0);
        dueText(x, 1, 3, ">&T!TT");
        for (int slot = 0; slot <= 2; slot++) {
            dueHold(slot, "T", 1);
            dueHold(slot, "0", -100);
        }
        due("none below", x.hold(-1), BAD);
        set(x, 2, "=a1");
        x.begin(0);
        dueText(x, 1, 0, "T");
        dueText(x, 1, 1, "T");
    }

    private static void termSlot() {
        test("slot 3 a term (0 at first)");
        RefinementBench x = begun(1, "T", "=ab");
        x.refine(1, ASSIGN, 0);
        dueText(x, 1, 2, ">T=0b");
        dueHold(3, "T", -100);
        put(x, "7");
        due("none above", x.hold(4), BAD);
        due("slot 3", x.hold(3), 1);
        put(x, "6a");
        due("what is wrong", x.hold(3), -101);
        x.prune(1);
        x.refine(1, ASSIGN, 0);
        dueText(x, 1, 2, ">T=7b");
    }

    private static void frame() {
        test("a FRAME (a set of variables; bits 1 for a, 2 for b, 4 for c)");
        RefinementBench x = new RefinementBench();
        int[] bits = {1, 2, 4};
        for (int v = 0; v <= 2; v++) {
            x.begin(bits[v]);
            due("the only one", x.refine(1, ASSIGN, v), 0);
            x.begin(7 - bits[v]);
            due("all but it", x.refine(1, ASSIGN, v), NO);
        }
    }

    private static void numbering() {
        test("Nodes are numbered from 1; 1 is the ROOT.");
        RefinementBench x = new RefinementBench();
        due("no root", x.node(1, 0), BAD);
        due("begin", x.begin(5), 1);
        due("0", x.node(0, 0), BAD);
        due("1", x.node(1, 0), 5);
        due("2", x.node(2, 0), BAD);
    }

    private static void substitution() {
        test("Q[v: E] is Q with E for v at all places");
        dueSubstituted("T", 0, "+ab", "T");
        dueSubstituted("=bc", 0, "+ab", "=bc");
        dueSubstituted("=ac", 0, "+ab", "=+abc");
        dueSubstituted("=ca", 0, "+aa", "=c+aa");
        dueSubstituted("=+aaa", 0, "-ba", "=+-ba-ba-ba");
        dueSubstituted("&<bx=b+bb", 1, "7", "&<7x=7+77");
        dueSubstituted("!=xc", 2, "c", "!=xc");
    }

    private static void dueSubstituted(String post, int v, String term, String want) {
        RefinementBench x = begun(7, "T", post);
        set(x, 3, term);
        due("assign", x.refine(1, ASSIGN, v), 0);
        dueText(x, 1, 2, ">T" + want);
    }

    private static void assignFrame() {
        test("ASSIGN v: no child; the condition >PQ[v: E]; v is in the frame");
        for (int frame = 0; frame <= 7; frame++) {
            for (int v = -1; v <= 3; v++) {
                RefinementBench x = begun(frame, "T", "T");
                boolean has = v >= 0 && v <= 2 && (frame / (1 << v)) % 2 == 1;
                due("frame " + frame + ", v " + v, x.refine(1, ASSIGN, v), has ? 0 : NO);
                due("its law", x.node(1, 1), has ? ASSIGN : 0);
            }
        }
        for (int v : new int[] {32, 33, 34, -32, -31, Integer.MIN_VALUE, Integer.MAX_VALUE}) {
            due("v " + v, begun(7, "T", "T").refine(1, ASSIGN, v), NO);
        }
    }

    private static void assignTerm() {
        test("E has no x");
        for (String term : new String[] {"x", "+xa", "+ax", "*1-2x"}) {
            RefinementBench x = begun(7, "=ax", "=bx");
            set(x, 3, term);
            due(term, x.refine(1, ASSIGN, 1), NO);
            set(x, 3, term.replace('x', 'c'));
            due("but for x", x.refine(1, ASSIGN, 1), 0);
        }
        RefinementBench y = new RefinementBench();
        set(y, 3, "x");
        for (int law : new int[] {SKIP, SEQUENCE, ALTERNATIVE, LOOP, STRONGER, WEAKER, NARROWER}) {
            y.begin(7);
            due("E may have it for law " + law, y.refine(1, law, 0), law == SKIP ? 0 : 2);
        }
    }

    private static void alternativeFormula() {
        test("F0 has no x");
        for (String formula : new String[] {"=xa", "=ax", "&T!<+1x0"}) {
            RefinementBench x = begun(7, "=ax", "=bx");
            set(x, 0, formula);
            due(formula, x.refine(1, ALTERNATIVE, 0), NO);
            set(x, 0, formula.replace('x', 'c'));
            due("but for x", x.refine(1, ALTERNATIVE, 0), 2);
        }
        RefinementBench y = new RefinementBench();
        set(y, 0, "=ax");
        for (int law : new int[] {SKIP, ASSIGN, SEQUENCE, LOOP, STRONGER, WEAKER, NARROWER}) {
            y.begin(7);
            due("F0 may have it for law " + law, y.refine(1, law, 0), law == SKIP || law == ASSIGN ? 0 : 2);
        }
    }

    private static void loopFormula() {
        test("F1 has no x");
        for (String formula : new String[] {"=xa", "=ax", "&T!<+1x0"}) {
            RefinementBench x = begun(7, "=ax", "=bx");
            set(x, 1, formula);
            due(formula, x.refine(1, LOOP, 0), NO);
            set(x, 1, formula.replace('x', 'c'));
            due("but for x", x.refine(1, LOOP, 0), 2);
        }
        RefinementBench y = new RefinementBench();
        set(y, 1, "=ax");
        set(y, 2, "=ax");
        for (int law : new int[] {SKIP, ASSIGN, SEQUENCE, ALTERNATIVE, STRONGER, WEAKER, NARROWER}) {
            y.begin(7);
            due("F1 may have it for law " + law, y.refine(1, law, 0), law == SKIP || law == ASSIGN ? 0 : 2);
        }
    }

    private static void loopInLoop() {
        test("the node lies in no loop's child, nor in what came of it");
        RefinementBench x = begun(7, "T", "T");
        due("a loop", x.refine(1, LOOP, 0), 2);
        due("in its child", x.refine(2, LOOP, 0), NO);
        int[] laws = {SEQUENCE, ALTERNATIVE, STRONGER, WEAKER, NARROWER};
        for (int law : laws) {
            due("law " + law, x.refine(2, law, 7), 3);
            due("in what came of it", x.refine(3, LOOP, 0), NO);
            due("in the second", x.refine(4, LOOP, 0), law == SEQUENCE || law == ALTERNATIVE ? NO : BAD);
            x.prune(2);
        }
        for (int law : laws) {
            x.begin(7);
            due("law " + law, x.refine(1, law, 7), 2);
            due("above all loops", x.refine(2, LOOP, 0), law == SEQUENCE || law == ALTERNATIVE ? 4 : 3);
        }
        loopBesideLoop();
    }

    private static void loopBesideLoop() {
        RefinementBench x = begun(7, "T", "T");
        x.refine(1, SEQUENCE, 0);
        due("a loop", x.refine(2, LOOP, 0), 4);
        due("one beside it", x.refine(3, LOOP, 0), 5);
        x.prune(2);
        due("the same node again", x.refine(2, LOOP, 0), 4);
        x.begin(7);
        due("a chain", x.refine(1, LOOP, 0), 2);
        for (int i = 2; i < 16; i++) {
            due("one step more", x.refine(i, NARROWER, 7), i + 1);
        }
        due("14 steps below the child", x.refine(16, LOOP, 0), NO);
        due("only a loop is refused", x.refine(16, SKIP, 0), 0);
    }

    private static void narrower() {
        test("u has no variable that w has not");
        for (int w = 0; w <= 7; w++) {
            for (int u = -1; u <= 9; u++) {
                RefinementBench x = begun(w, "T", "T");
                boolean fits = u >= 0 && u <= 7 && (w | u) == w;
                due("w " + w + ", u " + u, x.refine(1, NARROWER, u), fits ? 2 : NO);
                due("the child's frame", x.node(2, 0), fits ? u : BAD);
                due("the node's frame", x.node(1, 0), w);
            }
            for (int u : new int[] {16 + w, 256 + w, Integer.MIN_VALUE + w, Integer.MAX_VALUE}) {
                due("u " + u, begun(w, "T", "T").refine(1, NARROWER, u), NO);
            }
        }
    }

    private static void nodes() {
        test("There are at most 16 nodes");
        RefinementBench x = chain(15);
        due("the 16th", x.refine(15, WEAKER, 0), 16);
        for (int law : new int[] {SEQUENCE, ALTERNATIVE, LOOP, STRONGER, WEAKER, NARROWER}) {
            due("a 17th by law " + law, x.refine(16, law, 7), FULL);
        }
        due("it is not refined", x.node(16, 1), 0);
        due("no 17th", x.node(17, 0), BAD);
        due("assign takes no node", x.refine(16, ASSIGN, 0), 0);
        x.prune(16);
        due("nor does skip", x.refine(16, SKIP, 0), 0);
        x.begin(7);
        due("all went", x.refine(1, WEAKER, 0), 2);
    }

    /** So many nodes, each but the root the only child of the one before it; what never begins can be proved. */
    private static RefinementBench chain(int length) {
        RefinementBench x = begun(7, "!T", "T");
        for (int i = 1; i < length; i++) {
            due("a chain", x.refine(i, NARROWER, 7), i + 1);
        }
        return x;
    }

    private static void nodesWithTwo() {
        test("There are at most 16 nodes (two at once)");
        for (int law : new int[] {SEQUENCE, ALTERNATIVE}) {
            RefinementBench x = chain(14);
            due("the 15th and the 16th", x.refine(14, law, 0), 15);
            due("the second", x.node(14, 3), 16);
            RefinementBench y = chain(15);
            due("the 16th and a 17th", y.refine(15, law, 0), FULL);
            due("not the first alone", y.node(16, 0), BAD);
            due("not refined", y.node(15, 1), 0);
            due("one fits", y.refine(15, LOOP, 0), 16);
        }
    }

    private static void nodesAfterPrune() {
        test("There are at most 16 nodes (numbers that are free again)");
        RefinementBench x = begun(7, "T", "T");
        x.refine(1, SEQUENCE, 0);
        x.refine(2, NARROWER, 7);
        for (int i = 3; i < 15; i++) {
            due("below 3", x.refine(i == 3 ? 3 : i + 1, NARROWER, 7), i + 2);
        }
        due("FULL", x.refine(16, NARROWER, 7), FULL);
        due("4 goes", x.prune(2), 1);
        due("two are too many", x.refine(16, SEQUENCE, 0), FULL);
        due("4 is free", x.refine(16, NARROWER, 7), 4);
        due("FULL again", x.refine(2, NARROWER, 7), FULL);
    }

    private static void longSkip() {
        test("no formula of a node or a condition has more than 120 characters: SKIP's >PQ");
        RefinementBench x = begun(7, formula(60), formula(59));
        due("120", x.refine(1, SKIP, 0), 0);
        dueText(x, 1, 2, ">" + formula(60) + formula(59));
        RefinementBench y = begun(7, formula(60), formula(60));
        due("121", y.refine(1, SKIP, 0), FULL);
    }

    private static void longAssign() {
        test("no formula of a node or a condition has more than 120 characters: ASSIGN's >PQ[v: E]");
        dueAssign(60, "=a0", 57, 0);
        dueAssign(58, "=a0", 59, 0);
        dueAssign(59, "=a0", 59, FULL);
        dueAssign(1, "=+ab+aa", 37, 0);
        dueAssign(4, "=+ab+aa", 37, 0);
        dueAssign(5, "=+ab+aa", 37, FULL);
        dueAssign(60, formula(59), 59, 0);
        dueAssign(60, formula(60), 1, FULL);
        dueAssign(1, "=a" + "+a".repeat(28) + "a", 59, FULL);
    }

    /** Assigns to a: a pre and a term of these lengths. */
    private static void dueAssign(int preLength, String post, int termLength, int want) {
        RefinementBench x = begun(7, formula(preLength), post);
        set(x, 3, term(termLength));
        String condition = ">" + formula(preLength) + post.replace("a", term(termLength));
        due("assign, " + condition.length(), x.refine(1, ASSIGN, 0), want);
        dueText(x, 1, 2, want == FULL ? "" : condition);
    }

    private static void longAlternative() {
        test("no formula of a node or a condition has more than 120 characters: ALTERNATIVE's &P!F0");
        for (int length = 57; length <= 60; length++) {
            RefinementBench x = begun(7, formula(60), "T");
            set(x, 0, formula(length));
            boolean fits = length <= 58;
            due((62 + length) + "", x.refine(1, ALTERNATIVE, 0), fits ? 2 : FULL);
            dueText(x, 2, 0, fits ? "&" + formula(60) + formula(length) : "");
            dueText(x, 3, 0, fits ? "&" + formula(60) + "!" + formula(length) : "");
        }
    }

    private static void longLoopPre() {
        test("no formula of a node or a condition has more than 120 characters: LOOP's &&F0F1=Ez");
        dueLoop(new int[] {1, 1, 60, 55, 1}, true);
        dueLoop(new int[] {1, 1, 60, 56, 1}, false);
        dueLoop(new int[] {1, 1, 1, 60, 55}, true);
        dueLoop(new int[] {1, 1, 2, 60, 55}, false);
        dueLoop(new int[] {1, 1, 56, 1, 59}, true);
        dueLoop(new int[] {1, 1, 57, 1, 59}, false);
        dueLoop(new int[] {1, 1, 60, 1, 59}, false);
    }

    private static void longLoopConditions() {
        test("no formula of a node or a condition has more than 120 characters: LOOP's >PF0 and >&F0!F1Q");
        dueLoop(new int[] {60, 1, 59, 1, 1}, true);
        dueLoop(new int[] {60, 1, 60, 1, 1}, false);
        dueLoop(new int[] {59, 1, 60, 1, 1}, true);
        dueLoop(new int[] {1, 60, 1, 56, 1}, true);
        dueLoop(new int[] {1, 60, 1, 57, 1}, false);
        dueLoop(new int[] {1, 56, 60, 1, 1}, true);
        dueLoop(new int[] {1, 57, 60, 1, 1}, false);
    }

    /** Refines by LOOP with P, Q, F0, F1 and E of these lengths. */
    private static void dueLoop(int[] lengths, boolean fits) {
        RefinementBench x = begun(7, formula(lengths[0]), formula(lengths[1]));
        String f0 = formula(lengths[2]);
        String f1 = formula(lengths[3]);
        String term = term(lengths[4]);
        set(x, 0, f0);
        set(x, 1, f1);
        set(x, 3, term);
        due("loop " + java.util.Arrays.toString(lengths), x.refine(1, LOOP, 0), fits ? 2 : FULL);
        dueText(x, 2, 0, fits ? "&&" + f0 + f1 + "=" + term + "z" : "");
        due("the post's last", x.text(2, 1, f0.length() + term.length() + 2), fits ? 'z' : BAD);
        due("behind the post", x.text(2, 1, f0.length() + term.length() + 3), BAD);
        due("the first condition's last", x.text(1, 2, lengths[0] + lengths[2]), fits ? 'T' : BAD);
        due("the second condition's last", x.text(1, 3, lengths[1] + lengths[2] + lengths[3] + 2), fits ? 'T' : BAD);
    }

    private static void longStronger() {
        test("no formula of a node or a condition has more than 120 characters: STRONGER's >F0Q");
        RefinementBench x = begun(7, formula(60), formula(60));
        set(x, 0, formula(60));
        due("121", x.refine(1, STRONGER, 0), FULL);
        dueText(x, 1, 2, "");
        set(x, 0, formula(59));
        due("120", x.refine(1, STRONGER, 0), 2);
        dueText(x, 1, 2, ">" + formula(59) + formula(60));
    }

    private static void longWeaker() {
        test("no formula of a node or a condition has more than 120 characters: WEAKER's >PF0");
        RefinementBench x = begun(7, formula(60), formula(60));
        set(x, 0, formula(60));
        due("121", x.refine(1, WEAKER, 0), FULL);
        dueText(x, 1, 2, "");
        set(x, 0, formula(59));
        due("120", x.refine(1, WEAKER, 0), 2);
        dueText(x, 1, 2, ">" + formula(60) + formula(59));
    }

    private static void longPassedOn() {
        test("no formula of a node or a condition has more than 120 characters: those that a child takes as they are");
        RefinementBench x = begun(7, formula(60), "T");
        set(x, 0, formula(58));
        due("alternative", x.refine(1, ALTERNATIVE, 0), 2);
        String longest = "&" + formula(60) + "!" + formula(58);
        due("skip", x.refine(3, SKIP, 0), FULL);
        due("assign", x.refine(3, ASSIGN, 0), FULL);
        due("weaker", x.refine(3, WEAKER, 0), FULL);
        due("alternative", x.refine(3, ALTERNATIVE, 0), FULL);
        due("loop", x.refine(3, LOOP, 0), FULL);
        due("narrower", x.refine(3, NARROWER, 0), 4);
        due("sequence", x.refine(4, SEQUENCE, 0), 5);
        due("stronger", x.refine(5, STRONGER, 0), 7);
        dueText(x, 7, 0, longest);
        due("119 and T", x.refine(2, SKIP, 0), FULL);
    }

    private static void tooLongChangesNothing() {
        test("FULL when there is no room");
        RefinementBench x = begun(7, formula(60), formula(60));
        set(x, 0, formula(60));
        for (int law : new int[] {SKIP, ASSIGN, ALTERNATIVE, LOOP, STRONGER, WEAKER}) {
            due("law " + law, x.refine(1, law, 0), FULL);
            dueNode(x, 1, 7, 0, 0, 0, 0, 0);
            due("no child", x.node(2, 0), BAD);
            dueOpen(x, 1, 1);
        }
        due("still not refined", x.prune(1), NO);
        due("what fits is done", x.refine(1, SEQUENCE, 0), 2);
        due("after one that did not", x.refine(2, SKIP, 0), FULL);
        due("as is the next", x.refine(3, NARROWER, 1), 4);
    }

    private static void refinements() {
        test("at most 48 refinements are made in all");
        RefinementBench x = refined(47);
        due("the 48th", x.refine(1, SKIP, 0), 0);
        x.prune(1);
        for (int law = SKIP; law <= NARROWER; law++) {
            due("a 49th by law " + law, x.refine(1, law, 0), FULL);
        }
        due("it is not refined", x.node(1, 1), 0);
        due("no child", x.node(2, 0), BAD);
        RefinementBench y = refined(47);
        due("the 48th with two children", y.refine(1, SEQUENCE, 0), 2);
        due("a 49th below it", y.refine(2, SKIP, 0), FULL);
    }

    /** An object in which so many refinements were made; only an open root is left. */
    private static RefinementBench refined(int times) {
        RefinementBench x = begun(7, "T", "T");
        for (int i = 1; i <= times; i++) {
            int law = i % 8 + 1;
            due("refinement " + i, x.refine(1, law, 0), law <= ASSIGN ? 0 : 2);
            due("prune", x.prune(1), law <= ASSIGN ? 0 : law <= ALTERNATIVE ? 2 : 1);
        }
        return x;
    }

    private static void refinementsNotMade() {
        test("at most 48 refinements are made in all (those that are refused are not made)");
        RefinementBench x = refined(46);
        for (int i = 0; i < 10; i++) {
            due("NO", x.refine(1, ASSIGN, 3), NO);
            due("BAD", x.refine(2, SKIP, 0), BAD);
            due("BAD", x.refine(1, 9, 0), BAD);
        }
        set(x, 0, formula(60));
        set(x, 1, formula(60));
        x.begin(7);
        for (int i = 0; i < 10; i++) {
            due("FULL", x.refine(1, SKIP, 0), FULL);
        }
        due("the 47th", x.refine(1, NARROWER, 0), 2);
        due("NO", x.refine(1, NARROWER, 0), NO);
        due("the 48th", x.refine(2, NARROWER, 0), 3);
        due("a 49th", x.refine(3, NARROWER, 0), FULL);
    }

    private static void refinementsInAll() {
        test("at most 48 refinements are made in all (begin and prune give none back)");
        RefinementBench x = begun(7, "T", "T");
        for (int i = 1; i <= 24; i++) {
            due("refinement", x.refine(1, SEQUENCE, 0), 2);
            due("refinement", x.refine(2, SKIP, 0), 0);
            x.begin(7);
        }
        due("a 49th", x.refine(1, SKIP, 0), FULL);
        x.begin(7);
        due("still", x.refine(1, SKIP, 0), FULL);
        due("another object", new RefinementBench().begin(7), 1);
    }

    private static void valid() {
        test("A condition is VALID when it holds in all states.");
        dueValid("T", true);
        dueValid("!T", false);
        dueValid("!&&=a7=b7&=c7=x7", false);
        dueValid("!&&=a0=b0&=c0=x0", false);
        dueValid("|!&&=a7=b7&=c7=x7<60", false);
        dueValid("|<a7|<b7|<c7|<x7=x7", true);
        validButForZ();
    }

    /** A loop's child has conditions with z; one that fails in the last state of all alone, or in the first. */
    private static void validButForZ() {
        for (String number : new String[] {"7", "0"}) {
            RefinementBench x = new RefinementBench();
            x.begin(7);
            set(x, 0, "=x" + number);
            set(x, 1, "&&=a" + number + "=b" + number + "=c" + number);
            set(x, 3, "x");
            due("loop", x.refine(1, LOOP, 0), 2);
            due("skip", x.refine(2, SKIP, 0), 0);
            due("one state refutes it", x.prove(2), 0);
            dueState(x, number.repeat(5));
        }
    }

    private static void openUntilProved() {
        test("A condition is OPEN until it was proved; a node is open when it is not refined.");
        RefinementBench x = begun(7, "T", "=aa");
        dueOpen(x, 1, 1);
        x.refine(1, SKIP, 0);
        dueOpen(x, 1, 1);
        x.prove(1);
        dueOpen(x, 0, 0);
        RefinementBench y = begun(7, "T", "=ab");
        y.refine(1, SKIP, 0);
        due("refuted", y.prove(1), 0);
        dueOpen(y, 1, 1);
    }

    private static void programOfSkip() {
        test("SKIP is nothing");
        RefinementBench x = begun(7, "T", "T");
        x.refine(1, SKIP, 0);
        x.prove(1);
        due("END alone", x.program(), 1);
        dueInstructions(x, "40");
        x.begin(7);
        x.refine(1, SEQUENCE, 0);
        for (int i = 2; i <= 3; i++) {
            x.refine(i, SKIP, 0);
            x.prove(i);
        }
        dueInstructions(x, "40");
    }

    /** Kind and goal of each instruction, a digit each. */
    private static void dueInstructions(RefinementBench x, String digits) {
        due("program", x.program(), digits.length() / 2);
        for (int i = 0; i < digits.length(); i++) {
            due("instruction(" + i / 2 + ", " + i % 2 + ")", x.instruction(i / 2, i % 2), digits.charAt(i) - '0');
        }
        due("none behind END", x.instruction(digits.length() / 2, 0), BAD);
    }

    private static void programOfAsks() {
        test("Behind all comes an END. Instructions are numbered from 0.");
        RefinementBench x = begun(7, "T", "T");
        x.refine(1, ALTERNATIVE, 0);
        for (int i = 2; i <= 3; i++) {
            x.refine(i, SKIP, 0);
            x.prove(i);
        }
        dueInstructions(x, "223240");
        begin(x, 7, "!T", "T");
        x.refine(1, LOOP, 0);
        x.refine(2, SKIP, 0);
        due("loop", x.prove(1), 1);
        due("skip", x.prove(2), 1);
        dueInstructions(x, "223040");
    }

    private static void askedVariables() {
        test("an ASK (if F0 does not hold, on to the second part), the first child's, a JUMP behind the second one's,"
            + " the second one's");
        for (int v = 0; v <= 2; v++) {
            RefinementBench x = begun(7, "T", "T");
            set(x, 0, "<" + "abc".charAt(v) + "7");
            x.refine(1, ALTERNATIVE, 0);
            set(x, 3, "5");
            x.refine(2, ASSIGN, v);
            set(x, 3, "6");
            x.refine(3, ASSIGN, v);
            x.prove(2);
            x.prove(3);
            dueInstructions(x, "231" + v + "341" + v + "40");
            for (int number = 6; number <= 7; number++) {
                int[] state = {13 - number, 13 - number, 13 - number, 9};
                state[v] = number;
                due("run", x.run(state[0], state[1], state[2], state[3]), number == 6 ? 3 : 2);
                due("the part that is done", x.after(v), number == 6 ? 5 : 6);
            }
        }
    }

    private static void deepestProgram() {
        test("THE PROGRAM (when nothing is open) comes of the root");
        RefinementBench x = chain(16);
        set(x, 3, "5");
        x.refine(16, ASSIGN, 1);
        due("15 steps below the root", x.prove(16), 1);
        dueInstructions(x, "1140");
        RefinementBench y = chain(15);
        due("a loop", y.refine(15, LOOP, 0), 16);
        y.refine(16, ASSIGN, 2);
        due("its conditions", y.prove(15), 1);
        due("its child's", y.prove(16), 1);
        dueInstructions(y, "23123040");
    }
}
