/**
 * Specifications are refined by laws in a tree; when nothing is open, the tree is a program.
 * The document DOC.md says what every call answers.
 */
public final class RefinementBench {
    public static final int BAD = -1;
    public static final int NO = -2;
    public static final int FULL = -3;

    private static final int MOST_NODES = 16;
    private static final int MOST_STEPS = 48;
    private static final int MOST_FUEL = 1000;
    private static final int LONGEST_BUFFER = 60;
    private static final int LONGEST_TEXT = 120;
    private static final int ALL_VARIABLES = 7;
    private static final int WRONG_AT = -100;

    private static final int SKIP = 1;
    private static final int ASSIGN = 2;
    private static final int SEQUENCE = 3;
    private static final int ALTERNATIVE = 4;
    private static final int LOOP = 5;
    private static final int STRONGER = 6;
    private static final int WEAKER = 7;
    private static final int NARROWER = 8;

    private static final int ASSIGNMENT = 1;
    private static final int ASK = 2;
    private static final int JUMP = 3;
    private static final int END = 4;

    private static final int TERM_SLOT = 3;
    private static final int ROOT = 1;

    private final StringBuilder buffer = new StringBuilder();
    private final Slot[] slots = new Slot[TERM_SLOT + 1];
    private final Node[] nodes = new Node[MOST_NODES + 1];
    private final Draft draft = new Draft();
    private final Judge judge = new Judge();
    private final Code code = new Code();
    private final int[] refutingState = new int[5];
    private final int[] stateAfter = new int[3];
    private boolean cameToEnd;
    private int stepsMade;

    public RefinementBench() {
        for (int i = 0; i < slots.length; i++) {
            slots[i] = new Slot(i == TERM_SLOT ? "0" : "T");
        }
    }

    public int type(long characters, int n) {
        if (n < 1 || n > 8 || !arePrintable(characters, n)) {
            return BAD;
        }
        if (buffer.length() + n > LONGEST_BUFFER) {
            return FULL;
        }
        for (int i = n - 1; i >= 0; i--) {
            buffer.append((char) byteOf(characters, i));
        }
        return buffer.length();
    }

    public int hold(int slot) {
        if (slot < 0 || slot > TERM_SLOT) {
            return BAD;
        }
        String read = buffer.toString();
        buffer.setLength(0);
        int right = rightCharacters(read, slot == TERM_SLOT);
        if (right >= 0) {
            return WRONG_AT - right;
        }
        slots[slot].content = read;
        return read.length();
    }

    public int begin(int frame) {
        if (frame < 0 || frame > ALL_VARIABLES) {
            return BAD;
        }
        for (int i = ROOT; i <= MOST_NODES; i++) {
            nodes[i] = null;
        }
        return enter(new Node(null, frame, slots[0].content, slots[1].content));
    }

    public int refine(int node, int law, int v) {
        Node chosen = find(node);
        if (chosen == null || law < SKIP || law > NARROWER) {
            return BAD;
        }
        if (chosen.step != null || !allows(chosen, law, v)) {
            return NO;
        }
        draft.startAnew();
        Step step = stepBy(chosen, law, v);
        if (draft.tooLong || stepsMade >= MOST_STEPS || freeNumbers() < step.countChildren()) {
            return FULL;
        }
        stepsMade++;
        chosen.step = step;
        int firstNumber = enter(step.firstChild);
        enter(step.secondChild);
        return firstNumber;
    }

    public int prove(int node) {
        Node chosen = find(node);
        if (chosen == null) {
            return BAD;
        }
        Step step = chosen.step;
        if (step == null) {
            return NO;
        }
        // What was proved stays valid: its states need no second look.
        if (!step.proved && (isRefuted(step.firstCondition) || isRefuted(step.secondCondition))) {
            return 0;
        }
        step.proved = true;
        return 1;
    }

    public int refuting(int what) {
        return what < 0 || what >= refutingState.length ? BAD : refutingState[what];
    }

    public int open() {
        int sum = 0;
        for (int i = ROOT; i <= MOST_NODES; i++) {
            sum += nodes[i] == null ? 0 : nodes[i].countOpen();
        }
        return sum;
    }

    public int first() {
        for (int i = ROOT; i <= MOST_NODES; i++) {
            if (nodes[i] != null && nodes[i].countOpen() > 0) {
                return i;
            }
        }
        return 0;
    }

    public int prune(int node) {
        Node chosen = find(node);
        if (chosen == null) {
            return BAD;
        }
        if (chosen.step == null) {
            return NO;
        }
        chosen.step = null;
        int gone = 0;
        for (int i = ROOT; i <= MOST_NODES; i++) {
            if (nodes[i] != null && nodes[i].cameOf(chosen)) {
                nodes[i] = null;
                gone++;
            }
        }
        return gone;
    }

    public int node(int node, int what) {
        Node chosen = find(node);
        if (chosen == null) {
            return BAD;
        }
        Step step = chosen.step;
        switch (what) {
            case 0:
                return chosen.frame;
            case 1:
                return step == null ? 0 : step.law;
            case 2:
                return step == null ? 0 : numberOf(step.firstChild);
            case 3:
                return step == null ? 0 : numberOf(step.secondChild);
            case 4:
                return step == null ? 0 : step.countConditions();
            case 5:
                return chosen.countOpen() == 0 ? 1 : 0;
            default:
                return BAD;
        }
    }

    public int text(int node, int which, int i) {
        Node chosen = find(node);
        String wanted = chosen == null ? null : chosen.writing(which);
        return wanted == null || i < 0 || i >= wanted.length() ? BAD : (int) wanted.charAt(i);
    }

    public int program() {
        return layOutProgram() ? code.size : NO;
    }

    public int instruction(int i, int what) {
        if (!layOutProgram()) {
            return NO;
        }
        if (i < 0 || i >= code.size || what < 0 || what > 1) {
            return BAD;
        }
        return what == 0 ? code.rows[i].kind : code.rows[i].goal;
    }

    public int run(int a, int b, int c, int fuel) {
        if (!layOutProgram()) {
            return NO;
        }
        if (fuel < 0 || fuel > MOST_FUEL) {
            return BAD;
        }
        stateAfter[0] = a & 7;
        stateAfter[1] = b & 7;
        stateAfter[2] = c & 7;
        int at = 0;
        int done = 0;
        while (done < fuel && !code.isEnd(at)) {
            at = code.next(at, stateAfter, judge);
            done++;
        }
        cameToEnd = code.isEnd(at);
        return done;
    }

    public int after(int v) {
        if (v == 3) {
            return cameToEnd ? 1 : 0;
        }
        return v < 0 || v >= stateAfter.length ? BAD : stateAfter[v];
    }

    private static int byteOf(long characters, int i) {
        return (int) (characters >>> (8 * i)) & 255;
    }

    private static boolean arePrintable(long characters, int n) {
        for (int i = 0; i < n; i++) {
            int one = byteOf(characters, i);
            if (one < 33 || one > 126) {
                return false;
            }
        }
        return true;
    }

    /**
     * How many characters stand before the wrong place; -1 when there is none.
     * Two counters are enough: the terms of a comparison are all read before the next formula.
     */
    private static int rightCharacters(String read, boolean asTerm) {
        int terms = asTerm ? 1 : 0;
        int formulas = asTerm ? 0 : 1;
        for (int i = 0; i < read.length(); i++) {
            char next = read.charAt(i);
            if (terms > 0 && isTermOperator(next)) {
                terms++;
            } else if (terms > 0 && isNumber(next)) {
                terms--;
            } else if (terms > 0 || formulas == 0) {
                return i;
            } else if (next == '=' || next == '<') {
                formulas--;
                terms = 2;
            } else if (next == '&' || next == '|' || next == '>') {
                formulas++;
            } else if (next == 'T') {
                formulas--;
            } else if (next != '!') {
                return i;
            }
        }
        return terms > 0 || formulas > 0 ? read.length() : -1;
    }

    private static boolean isTermOperator(char one) {
        return one == '+' || one == '-' || one == '*';
    }

    private static boolean isNumber(char one) {
        return (one >= '0' && one <= '7') || (one >= 'a' && one <= 'c') || one == 'x';
    }

    private static int numberOf(Node node) {
        return node == null ? 0 : node.number;
    }

    private Node find(int number) {
        return number < ROOT || number > MOST_NODES ? null : nodes[number];
    }

    private int freeNumbers() {
        int free = 0;
        for (int i = ROOT; i <= MOST_NODES; i++) {
            free += nodes[i] == null ? 1 : 0;
        }
        return free;
    }

    /** Gives a node, if there is one, the least free number, and answers it. */
    private int enter(Node node) {
        for (int i = ROOT; node != null && i <= MOST_NODES; i++) {
            if (nodes[i] == null) {
                nodes[i] = node;
                node.number = i;
                return i;
            }
        }
        return 0;
    }

    private boolean allows(Node node, int law, int v) {
        switch (law) {
            case ASSIGN:
                return node.mayChange(v) && !slots[TERM_SLOT].hasX();
            case ALTERNATIVE:
                return !slots[0].hasX();
            case LOOP:
                return !slots[1].hasX() && !node.isInLoop();
            case NARROWER:
                return (v & ~node.frame) == 0;
            default:
                return true;
        }
    }

    private Step stepBy(Node node, int law, int v) {
        Step step = new Step(law);
        String f0 = slots[0].content;
        switch (law) {
            case SKIP:
                step.firstCondition = draft.put(">").put(node.pre).put(node.post).take();
                break;
            case ASSIGN:
                assign(step, node, v);
                break;
            case SEQUENCE:
                step.firstChild = new Node(node, node.frame, node.pre, f0);
                step.secondChild = new Node(node, node.frame, f0, node.post);
                break;
            case ALTERNATIVE:
                alternate(step, node, f0);
                break;
            case LOOP:
                loop(step, node, f0);
                break;
            case STRONGER:
                step.firstChild = new Node(node, node.frame, node.pre, f0);
                step.firstCondition = draft.put(">").put(f0).put(node.post).take();
                break;
            case WEAKER:
                step.firstChild = new Node(node, node.frame, f0, node.post);
                step.firstCondition = draft.put(">").put(node.pre).put(f0).take();
                break;
            default:
                step.firstChild = new Node(node, v, node.pre, node.post);
                break;
        }
        return step;
    }

    private void assign(Step step, Node node, int v) {
        String term = slots[TERM_SLOT].content;
        step.variable = v;
        step.part = term;
        draft.put(">").put(node.pre);
        step.firstCondition = draft.putWith(node.post, (char) ('a' + v), term).take();
    }

    private void alternate(Step step, Node node, String f0) {
        step.part = f0;
        String holds = draft.put("&").put(node.pre).put(f0).take();
        String fails = draft.put("&").put(node.pre).put("!").put(f0).take();
        step.firstChild = new Node(node, node.frame, holds, node.post);
        step.secondChild = new Node(node, node.frame, fails, node.post);
    }

    private void loop(Step step, Node node, String f0) {
        String f1 = slots[1].content;
        String term = slots[TERM_SLOT].content;
        step.part = f1;
        String pre = draft.put("&&").put(f0).put(f1).put("=").put(term).put("z").take();
        String post = draft.put("&").put(f0).put("<").put(term).put("z").take();
        step.firstChild = new Node(node, node.frame, pre, post);
        step.firstCondition = draft.put(">").put(node.pre).put(f0).take();
        step.secondCondition = draft.put(">&").put(f0).put("!").put(f1).put(node.post).take();
    }

    /** Looks for the least state in which a condition, if there is one, does not hold, and keeps it. */
    private boolean isRefuted(String condition) {
        for (int abc = 0; condition != null && abc < 512; abc++) {
            int a = abc >> 6;
            int b = abc >> 3 & 7;
            int c = abc & 7;
            long fails = ~judge.truths(condition, a, b, c);
            if (fails != 0) {
                int xz = Long.numberOfTrailingZeros(fails);
                refutingState[0] = a;
                refutingState[1] = b;
                refutingState[2] = c;
                refutingState[3] = xz >> 3;
                refutingState[4] = xz & 7;
                return true;
            }
        }
        return false;
    }

    /** Lays THE PROGRAM out anew, as the tree may have changed; false when there is none. */
    private boolean layOutProgram() {
        if (nodes[ROOT] == null || open() > 0) {
            return false;
        }
        code.layOut(nodes[ROOT]);
        return true;
    }

    private static final class Slot {
        private String content;

        Slot(String content) {
            this.content = content;
        }

        boolean hasX() {
            return content.indexOf('x') >= 0;
        }
    }

    /** A specification in the tree. */
    private static final class Node {
        private final Node parent;
        private final int frame;
        private final String pre;
        private final String post;
        private int number;
        private Step step;

        Node(Node parent, int frame, String pre, String post) {
            this.parent = parent;
            this.frame = frame;
            this.pre = pre;
            this.post = post;
        }

        boolean mayChange(int v) {
            return v >= 0 && v <= 2 && (frame >> v & 1) == 1;
        }

        boolean cameOf(Node other) {
            for (Node up = parent; up != null; up = up.parent) {
                if (up == other) {
                    return true;
                }
            }
            return false;
        }

        boolean isInLoop() {
            for (Node up = parent; up != null; up = up.parent) {
                if (up.step != null && up.step.law == LOOP) {
                    return true;
                }
            }
            return false;
        }

        int countOpen() {
            if (step == null) {
                return 1;
            }
            return step.proved ? 0 : step.countConditions();
        }

        /** The pre (0), the post (1) or a condition (2, 3); null when there is none. */
        String writing(int which) {
            switch (which) {
                case 0:
                    return pre;
                case 1:
                    return post;
                case 2:
                    return step == null ? null : step.firstCondition;
                case 3:
                    return step == null ? null : step.secondCondition;
                default:
                    return null;
            }
        }
    }

    /** How a node is refined; a child or condition that the law does not have is null. */
    private static final class Step {
        private final int law;
        private Node firstChild;
        private Node secondChild;
        private String firstCondition;
        private String secondCondition;
        private boolean proved;
        private int variable;
        /** What the program assigns or asks here. */
        private String part;

        Step(int law) {
            this.law = law;
        }

        int countChildren() {
            return (firstChild == null ? 0 : 1) + (secondChild == null ? 0 : 1);
        }

        int countConditions() {
            return (firstCondition == null ? 0 : 1) + (secondCondition == null ? 0 : 1);
        }
    }

    /** Puts the texts of one refinement together, and remembers if one of them was too long. */
    private static final class Draft {
        private final StringBuilder characters = new StringBuilder();
        private boolean tooLong;

        void startAnew() {
            tooLong = false;
        }

        Draft put(String piece) {
            // A text that is too long already is refused: more of it would only take room.
            if (characters.length() <= LONGEST_TEXT) {
                characters.append(piece);
            }
            return this;
        }

        /** Puts a formula with a term for a variable at all places. */
        Draft putWith(String formula, char variable, String term) {
            for (int i = 0; i < formula.length() && characters.length() <= LONGEST_TEXT; i++) {
                char next = formula.charAt(i);
                if (next == variable) {
                    characters.append(term);
                } else {
                    characters.append(next);
                }
            }
            return this;
        }

        String take() {
            boolean fits = characters.length() <= LONGEST_TEXT;
            String taken = fits ? characters.toString() : "";
            tooLong = tooLong || !fits;
            characters.setLength(0);
            return taken;
        }
    }

    /**
     * Says what terms and formulas are worth in the 64 states that share a, b and c at once, as
     * there are too many states for one after the other. Bit 8 x + z of a long stands for the
     * state with that x and z, so that the lowest bit is the least state; a number takes three
     * longs (its ones, twos and fours), a truth only the ones.
     */
    private static final class Judge {
        private static final long X_ONES = 0xFF00FF00FF00FF00L;
        private static final long X_TWOS = 0xFFFF0000FFFF0000L;
        private static final long X_FOURS = 0xFFFFFFFF00000000L;
        private static final long Z_ONES = 0xAAAAAAAAAAAAAAAAL;
        private static final long Z_TWOS = 0xCCCCCCCCCCCCCCCCL;
        private static final long Z_FOURS = 0xF0F0F0F0F0F0F0F0L;

        private final long[] ones = new long[LONGEST_TEXT];
        private final long[] twos = new long[LONGEST_TEXT];
        private final long[] fours = new long[LONGEST_TEXT];
        private int height;

        long truths(String formula, int a, int b, int c) {
            weigh(formula, a, b, c);
            return ones[0];
        }

        /** The number of a term that has neither x nor z. */
        int number(String term, int a, int b, int c) {
            weigh(term, a, b, c);
            return (int) (ones[0] & 1 | twos[0] & 2 | fours[0] & 4);
        }

        /** From the end to the front each operator finds its operands on the pile, the first on top. */
        private void weigh(String text, int a, int b, int c) {
            height = 0;
            for (int i = text.length() - 1; i >= 0; i--) {
                char next = text.charAt(i);
                switch (next) {
                    case 'a':
                        pileNumber(a);
                        break;
                    case 'b':
                        pileNumber(b);
                        break;
                    case 'c':
                        pileNumber(c);
                        break;
                    case 'x':
                        pile(X_ONES, X_TWOS, X_FOURS);
                        break;
                    case 'z':
                        pile(Z_ONES, Z_TWOS, Z_FOURS);
                        break;
                    case 'T':
                        pile(-1L, 0L, 0L);
                        break;
                    case '!':
                        negate();
                        break;
                    case '0': case '1': case '2': case '3': case '4': case '5': case '6': case '7':
                        pileNumber(next - '0');
                        break;
                    default:
                        join(next);
                        break;
                }
            }
        }

        private void pileNumber(int number) {
            pile(-(long) (number & 1), -(long) (number >> 1 & 1), -(long) (number >> 2 & 1));
        }

        private void pile(long one, long two, long four) {
            if (height < LONGEST_TEXT) {
                ones[height] = one;
                twos[height] = two;
                fours[height] = four;
                height++;
            }
        }

        private void negate() {
            if (height >= 1) {
                ones[height - 1] = ~ones[height - 1];
            }
        }

        /** Puts what comes of the two operands on top in the place of the second one. */
        private void join(char operator) {
            if (height < 2) {
                return;
            }
            height--;
            int p = height;
            int q = height - 1;
            switch (operator) {
                case '+':
                    add(p, q);
                    break;
                case '-':
                    subtract(p, q);
                    break;
                case '*':
                    multiply(p, q);
                    break;
                case '=':
                    ones[q] = ~(ones[p] ^ ones[q] | twos[p] ^ twos[q] | fours[p] ^ fours[q]);
                    break;
                case '<':
                    compare(p, q);
                    break;
                case '&':
                    ones[q] &= ones[p];
                    break;
                case '|':
                    ones[q] |= ones[p];
                    break;
                default:
                    ones[q] |= ~ones[p];
                    break;
            }
        }

        private void add(int p, int q) {
            long toTwos = ones[p] & ones[q];
            long toFours = twos[p] & twos[q] | toTwos & (twos[p] ^ twos[q]);
            ones[q] ^= ones[p];
            twos[q] ^= twos[p] ^ toTwos;
            fours[q] ^= fours[p] ^ toFours;
        }

        private void subtract(int p, int q) {
            long fromTwos = borrow(ones[p], ones[q], 0L);
            long fromFours = borrow(twos[p], twos[q], fromTwos);
            ones[q] ^= ones[p];
            twos[q] ^= twos[p] ^ fromTwos;
            fours[q] ^= fours[p] ^ fromFours;
        }

        /** The first number is less when taking the second one off it borrows beyond the fours. */
        private void compare(int p, int q) {
            long fromTwos = borrow(ones[p], ones[q], 0L);
            long fromFours = borrow(twos[p], twos[q], fromTwos);
            ones[q] = borrow(fours[p], fours[q], fromFours);
        }

        private static long borrow(long from, long taken, long before) {
            return ~from & (taken | before) | taken & before;
        }

        private void multiply(int p, int q) {
            long high = twos[p] & ones[q];
            long low = ones[p] & twos[q];
            long four = fours[p] & ones[q] ^ twos[p] & twos[q] ^ ones[p] & fours[q];
            ones[q] &= ones[p];
            twos[q] = high ^ low;
            fours[q] = four ^ high & low;
        }
    }

    private static final class Instruction {
        private int kind;
        /** The variable that is assigned, or the instruction to which it may go on. */
        private int goal;
        private String part;
    }

    /** THE PROGRAM: no node gives more than two instructions, and there is one END. */
    private static final class Code {
        private static final int MOST_INSTRUCTIONS = 2 * MOST_NODES + 1;

        private final Instruction[] rows = new Instruction[MOST_INSTRUCTIONS];
        private int size;

        Code() {
            for (int i = 0; i < MOST_INSTRUCTIONS; i++) {
                rows[i] = new Instruction();
            }
        }

        void layOut(Node root) {
            size = 0;
            layOutNode(root, 1);
            add(END, 0, null);
        }

        boolean isEnd(int at) {
            return rows[at].kind == END;
        }

        /** Does the instruction, which is not END, and answers the one to go on with. */
        int next(int at, int[] state, Judge judge) {
            Instruction now = rows[at];
            if (now.kind == JUMP) {
                return now.goal;
            }
            if (now.kind == ASSIGNMENT) {
                state[now.goal] = judge.number(now.part, state[0], state[1], state[2]);
                return at + 1;
            }
            boolean holds = (judge.truths(now.part, state[0], state[1], state[2]) & 1) == 1;
            return holds ? at + 1 : now.goal;
        }

        private void layOutNode(Node node, int depth) {
            if (node == null || node.step == null || depth > MOST_NODES) {
                return;
            }
            Step step = node.step;
            switch (step.law) {
                case ASSIGN:
                    add(ASSIGNMENT, step.variable, step.part);
                    break;
                case ALTERNATIVE:
                    layOutAlternative(step, depth);
                    break;
                case LOOP:
                    layOutLoop(step, depth);
                    break;
                default:
                    layOutNode(step.firstChild, depth + 1);
                    layOutNode(step.secondChild, depth + 1);
                    break;
            }
        }

        private void layOutAlternative(Step step, int depth) {
            int ask = add(ASK, 0, step.part);
            layOutNode(step.firstChild, depth + 1);
            int jump = add(JUMP, 0, null);
            rows[ask].goal = size;
            layOutNode(step.secondChild, depth + 1);
            rows[jump].goal = size;
        }

        private void layOutLoop(Step step, int depth) {
            int ask = add(ASK, 0, step.part);
            layOutNode(step.firstChild, depth + 1);
            add(JUMP, ask, null);
            rows[ask].goal = size;
        }

        private int add(int kind, int goal, String part) {
            int at = size;
            rows[at].kind = kind;
            rows[at].goal = goal;
            rows[at].part = part;
            size++;
            return at;
        }
    }
}
