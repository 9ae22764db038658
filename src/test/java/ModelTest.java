import java.util.ArrayList;
import java.util.List;
import java.util.TreeMap;

/**
 * Long runs of calls, chosen by a fixed row of numbers, answered by RefinementBench and by a slow
 * and plain second program, which reads by descent and looks at the states one after the other.
 */
public final class ModelTest {
    private static final int OBJECTS = 600;
    private static final int CALLS = 512;
    private static final int BAD = -1;
    private static final int NO = -2;
    private static final int FULL = -3;

    private static int wrong = 0;
    private static long seed = 20261115L;
    private static final int[] ANSWERED = new int[5];

    private RefinementBench bench;
    private Model model;
    private int calls;
    private final StringBuilder told = new StringBuilder();

    public static void main(String[] args) {
        for (int i = 0; i < OBJECTS && wrong == 0; i++) {
            new ModelTest().oneObject(i);
        }
        usedEnough("runs of more than ten instructions", ANSWERED[0], 1000);
        usedEnough("proofs", ANSWERED[1], 2000);
        usedEnough("refuted conditions", ANSWERED[2], 1000);
        usedEnough("refusals for room", ANSWERED[3], 100);
        usedEnough("nodes that went", ANSWERED[4], 1000);
        System.out.println(wrong == 0 ? "all answers are the model's" : wrong + " answers are not the model's");
        if (wrong != 0) {
            System.exit(1);
        }
    }

    private static void usedEnough(String what, int count, int least) {
        if (wrong == 0 && count < least) {
            wrong++;
            System.out.println("only " + count + " " + what + ", the runs shall have " + least);
        }
    }

    /** A number below the bound; a generator of our own, so that every machine makes the same runs. */
    private static int pick(int bound) {
        seed = seed * 6364136223846793005L + 1442695040888963407L;
        return (int) ((seed >>> 33) % bound);
    }

    private void oneObject(int kind) {
        bench = new RefinementBench();
        model = new Model();
        while (calls < CALLS && wrong == 0) {
            if (kind % 3 == 0) {
                buildProgram();
            } else {
                oneMove(kind);
            }
        }
    }

    private void oneMove(int kind) {
        int move = pick(100);
        if (move < 22) {
            hold(kind);
        } else if (move < 24 || model.nodes.isEmpty()) {
            int frame = pick(20) == 0 ? pick(12) - 2 : 7 - pick(3) * pick(2);
            due("begin(" + frame + ")", bench.begin(frame), model.begin(frame));
        } else if (move < 52) {
            refine(kind);
        } else if (move < 70) {
            prove();
        } else if (move < 73) {
            int node = someNode();
            int gone = model.prune(node);
            ANSWERED[4] += Math.max(gone, 0);
            due("prune(" + node + ")", bench.prune(node), gone);
        } else if (move < 85) {
            look();
        } else {
            useProgram();
        }
    }

    /** All is proved of what can never begin: so programs of any form come of it. */
    private void buildProgram() {
        holdText(0, "!T");
        due("begin(7)", bench.begin(7), model.begin(7));
        for (int i = 0; i < 20 && model.firstUnrefined() != 0; i++) {
            int node = model.firstUnrefined();
            int law = i < 4 ? 3 + pick(3) : pick(5) < 3 ? 2 : 1 + pick(8);
            holdText(0, law == 4 ? formula(2, 20).replace('x', 'a') : "!T");
            holdText(1, formula(2, 20).replace('x', 'b'));
            holdText(3, term(1 + pick(2), 6).replace('x', 'c'));
            int v = law == 8 ? 7 : pick(3);
            int answer = model.refine(node, law, v);
            due("refine(" + node + ", " + law + ", " + v + ")", bench.refine(node, law, v), answer);
            if (answer < 0) {
                due("refine(" + node + ", 2, 0)", bench.refine(node, 2, 0), model.refine(node, 2, 0));
            }
            due("prove(" + node + ")", bench.prove(node), model.prove(node));
        }
        for (int i = 0; i < 12; i++) {
            useProgram();
        }
        int node = someNode();
        due("prune(" + node + ")", bench.prune(node), model.prune(node));
    }

    private void hold(int kind) {
        int slot = pick(30) == 0 ? pick(8) - 2 : pick(4);
        String text = slot == 3 ? term(pick(3), 5) : formula(pick(4), kind % 2 == 0 ? 8 : 40);
        if (pick(12) == 0) {
            text = spoil(text);
        }
        if (pick(20) == 0) {
            text = "!".repeat(50 + pick(10)) + "T";
        }
        holdText(slot, text);
    }

    private void holdText(int slot, String text) {
        for (int from = 0; from < text.length(); ) {
            int n = Math.min(text.length() - from, 1 + pick(8));
            long characters = pick(2) == 0 ? 0 : 0x1234567890L;
            for (int i = from; i < from + n; i++) {
                characters = characters << 8 | text.charAt(i);
            }
            int asked = pick(60) == 0 ? pick(12) - 1 : n;
            due("type(" + characters + ", " + asked + ")", bench.type(characters, asked),
                model.type(characters, asked));
            from += n;
        }
        due("hold(" + slot + ")", bench.hold(slot), model.hold(slot));
    }

    private static String term(int depth, int most) {
        if (depth == 0 || pick(most) == 0) {
            return String.valueOf("01234567abcabcabcabcabcx".charAt(pick(24)));
        }
        return "+-*".charAt(pick(3)) + term(depth - 1, most) + term(depth - 1, most);
    }

    private static String formula(int depth, int easy) {
        int one = pick(easy);
        if (one < 4) {
            return "T";
        }
        if (depth == 0 || one < 6) {
            return "=<".charAt(pick(2)) + term(pick(2), 3) + term(pick(2), 3);
        }
        if (pick(4) == 0) {
            return "!" + formula(depth - 1, easy);
        }
        return "&|>".charAt(pick(3)) + formula(depth - 1, easy) + formula(depth - 1, easy);
    }

    private static String spoil(String text) {
        int at = pick(text.length());
        String other = String.valueOf("T=<!&|>+-*089abcdxyzA~! ".charAt(pick(24)));
        switch (pick(3)) {
            case 0:
                return text.substring(0, at) + other + text.substring(at + 1);
            case 1:
                return text.substring(0, at) + other + text.substring(at);
            default:
                return text.substring(0, at);
        }
    }

    private int someNode() {
        return pick(25) == 0 ? pick(20) - 1 : new ArrayList<>(model.nodes.keySet()).get(pick(model.nodes.size()));
    }

    private void refine(int kind) {
        int node = pick(3) == 0 ? someNode() : Math.max(1, model.firstUnrefined());
        int law = pick(40) == 0 ? pick(12) - 1 : 1 + pick(8);
        if (kind % 3 == 1 && pick(2) == 0) {
            law = 1 + pick(2);
        }
        int v = pick(20) == 0 ? pick(12) - 2 : law == 8 ? 7 - pick(8) * pick(2) : pick(3);
        int answer = model.refine(node, law, v);
        ANSWERED[3] += answer == FULL ? 1 : 0;
        due("refine(" + node + ", " + law + ", " + v + ")", bench.refine(node, law, v), answer);
    }

    private void prove() {
        int node = pick(3) == 0 || model.first() == 0 ? someNode() : model.first();
        int answer = model.prove(node);
        ANSWERED[1] += answer == 1 ? 1 : 0;
        ANSWERED[2] += answer == 0 ? 1 : 0;
        due("prove(" + node + ")", bench.prove(node), answer);
        int what = pick(6);
        due("refuting(" + what + ")", bench.refuting(what), model.refuting(what));
        if (answer == 0) {
            for (int i = 0; i < 5; i++) {
                due("refuting(" + i + ")", bench.refuting(i), model.refuting(i));
            }
            if (pick(2) == 0) {
                due("prune(" + node + ")", bench.prune(node), model.prune(node));
            }
        }
    }

    private void look() {
        int node = someNode();
        int what = pick(8) - 1;
        int which = pick(20) == 0 ? pick(8) - 2 : pick(4);
        due("open()", bench.open(), model.open());
        due("first()", bench.first(), model.first());
        due("node(" + node + ", " + what + ")", bench.node(node, what), model.node(node, what));
        for (int k = 0; k < 3; k++) {
            int i = pick(pick(2) == 0 ? 12 : 124) - 1;
            due("text(" + node + ", " + which + ", " + i + ")", bench.text(node, which, i),
                model.text(node, which, i));
        }
    }

    private void useProgram() {
        int size = model.program();
        due("program()", bench.program(), size);
        int i = pick(Math.max(size, 0) + 3) - 1;
        int what = pick(12) == 0 ? pick(6) - 2 : pick(2);
        due("instruction(" + i + ", " + what + ")", bench.instruction(i, what), model.instruction(i, what));
        int[] to = {pick(20) - 6, pick(20) - 6, pick(20) - 6, pick(4) == 0 ? 995 + pick(10) : pick(25) - 1};
        int did = model.run(to[0], to[1], to[2], to[3]);
        ANSWERED[0] += did > 10 ? 1 : 0;
        due("run(" + to[0] + ", " + to[1] + ", " + to[2] + ", " + to[3] + ")",
            bench.run(to[0], to[1], to[2], to[3]), did);
        for (int v = pick(2) - 1; v <= 3 + pick(2); v++) {
            due("after(" + v + ")", bench.after(v), model.after(v));
        }
    }

    private void due(String call, int got, int want) {
        calls++;
        told.append(call).append(" = ").append(got).append('\n');
        if (got != want && calls <= CALLS) {
            wrong++;
            System.out.println(told + "the model answers " + want);
        }
    }

    /** A place where a text is wrong. */
    private static final class Wrong extends RuntimeException {
        private static final long serialVersionUID = 1L;
        private final int place;

        Wrong(int place) {
            super("wrong");
            this.place = place;
        }
    }

    private static final class Spec {
        int number;
        int frame;
        String pre;
        String post;
        int law;
        int variable;
        String part;
        boolean inLoop;
        boolean proved;
        List<Spec> children = new ArrayList<>();
        List<String> conditions = new ArrayList<>();

        Spec(int frame, String pre, String post, boolean inLoop) {
            this.frame = frame;
            this.pre = pre;
            this.post = post;
            this.inLoop = inLoop;
        }
    }

    private static final class Model {
        final TreeMap<Integer, Spec> nodes = new TreeMap<>();
        private final String[] slots = {"T", "T", "T", "0"};
        private final int[] refuting = new int[5];
        private final int[] after = new int[4];
        private String buffer = "";
        private int made;

        private String reading;
        private int place;

        int type(long characters, int n) {
            if (n < 1 || n > 8) {
                return BAD;
            }
            StringBuilder more = new StringBuilder();
            for (int i = 0; i < n; i++) {
                more.insert(0, (char) (characters & 255));
                characters >>= 8;
            }
            for (char one : more.toString().toCharArray()) {
                if (one <= ' ' || one >= 127) {
                    return BAD;
                }
            }
            if (buffer.length() + n > 60) {
                return FULL;
            }
            buffer += more;
            return buffer.length();
        }

        int hold(int slot) {
            if (slot < 0 || slot > 3) {
                return BAD;
            }
            reading = buffer;
            place = 0;
            buffer = "";
            try {
                if (slot == 3) {
                    readTerm();
                } else {
                    readFormula();
                }
                if (place < reading.length()) {
                    throw new Wrong(place);
                }
            } catch (Wrong told) {
                return -100 - told.place;
            }
            slots[slot] = reading;
            return reading.length();
        }

        private char next(String allowed) {
            if (place >= reading.length() || allowed.indexOf(reading.charAt(place)) < 0) {
                throw new Wrong(place);
            }
            return reading.charAt(place++);
        }

        private void readTerm() {
            if ("+-*".indexOf(next("01234567abcx+-*")) >= 0) {
                readTerm();
                readTerm();
            }
        }

        private void readFormula() {
            char head = next("T=<!&|>");
            if (head == '=' || head == '<') {
                readTerm();
                readTerm();
            } else if (head != 'T') {
                readFormula();
                if (head != '!') {
                    readFormula();
                }
            }
        }

        int begin(int frame) {
            if (frame < 0 || frame > 7) {
                return BAD;
            }
            nodes.clear();
            addNode(new Spec(frame, slots[0], slots[1], false));
            return 1;
        }

        private void addNode(Spec spec) {
            int number = 1;
            while (nodes.containsKey(number)) {
                number++;
            }
            spec.number = number;
            nodes.put(number, spec);
        }

        int refine(int node, int law, int v) {
            Spec n = nodes.get(node);
            if (n == null || law < 1 || law > 8) {
                return BAD;
            }
            String f0 = slots[0];
            String f1 = slots[1];
            String e = slots[3];
            if (n.law != 0
                    || law == 2 && (v < 0 || v > 2 || (n.frame & 1 << v) == 0 || e.contains("x"))
                    || law == 4 && f0.contains("x")
                    || law == 5 && (f1.contains("x") || n.inLoop)
                    || law == 8 && (v < 0 || v > 7 || (n.frame | v) != n.frame)) {
                return NO;
            }
            List<Spec> children = new ArrayList<>();
            List<String> conditions = new ArrayList<>();
            if (law == 1) {
                conditions.add(">" + n.pre + n.post);
            } else if (law == 2) {
                conditions.add(">" + n.pre + n.post.replace("abc".substring(v, v + 1), e));
            } else if (law == 3) {
                children.add(new Spec(n.frame, n.pre, f0, n.inLoop));
                children.add(new Spec(n.frame, f0, n.post, n.inLoop));
            } else if (law == 4) {
                children.add(new Spec(n.frame, "&" + n.pre + f0, n.post, n.inLoop));
                children.add(new Spec(n.frame, "&" + n.pre + "!" + f0, n.post, n.inLoop));
            } else if (law == 5) {
                children.add(new Spec(n.frame, "&&" + f0 + f1 + "=" + e + "z", "&" + f0 + "<" + e + "z", true));
                conditions.add(">" + n.pre + f0);
                conditions.add(">&" + f0 + "!" + f1 + n.post);
            } else if (law == 6) {
                children.add(new Spec(n.frame, n.pre, f0, n.inLoop));
                conditions.add(">" + f0 + n.post);
            } else if (law == 7) {
                children.add(new Spec(n.frame, f0, n.post, n.inLoop));
                conditions.add(">" + n.pre + f0);
            } else {
                children.add(new Spec(v, n.pre, n.post, n.inLoop));
            }
            int longest = 0;
            for (Spec child : children) {
                longest = Math.max(longest, Math.max(child.pre.length(), child.post.length()));
            }
            for (String condition : conditions) {
                longest = Math.max(longest, condition.length());
            }
            if (longest > 120 || made == 48 || nodes.size() + children.size() > 16) {
                return FULL;
            }
            made++;
            n.law = law;
            n.variable = v;
            n.part = law == 2 ? e : law == 4 ? f0 : f1;
            n.proved = false;
            n.children = children;
            n.conditions = conditions;
            for (Spec child : children) {
                addNode(child);
            }
            return children.isEmpty() ? 0 : children.get(0).number;
        }

        int prove(int node) {
            Spec n = nodes.get(node);
            if (n == null) {
                return BAD;
            }
            if (n.law == 0) {
                return NO;
            }
            for (String condition : n.conditions) {
                if (isRefuted(condition)) {
                    return 0;
                }
            }
            n.proved = true;
            return 1;
        }

        /** One after the other; what a condition does not have is 0 in the least state anyway. */
        private boolean isRefuted(String condition) {
            int[] state = new int[5];
            for (int i = 0; i < 32768; i++) {
                boolean looked = true;
                for (int k = 0; k < 5; k++) {
                    state[k] = i >> 3 * (4 - k) & 7;
                    looked = looked && (state[k] == 0 || condition.indexOf("abcxz".charAt(k)) >= 0);
                }
                if (looked && Worth.of(condition, state) == 0) {
                    System.arraycopy(state, 0, refuting, 0, 5);
                    return true;
                }
            }
            return false;
        }

        int refuting(int what) {
            return what >= 0 && what <= 4 ? refuting[what] : BAD;
        }

        private static int openOf(Spec n) {
            return n.law == 0 ? 1 : n.proved ? 0 : n.conditions.size();
        }

        int open() {
            int sum = 0;
            for (Spec n : nodes.values()) {
                sum += openOf(n);
            }
            return sum;
        }

        int first() {
            for (Spec n : nodes.values()) {
                if (openOf(n) > 0) {
                    return n.number;
                }
            }
            return 0;
        }

        int firstUnrefined() {
            for (Spec n : nodes.values()) {
                if (n.law == 0) {
                    return n.number;
                }
            }
            return 0;
        }

        int prune(int node) {
            Spec n = nodes.get(node);
            if (n == null) {
                return BAD;
            }
            return n.law == 0 ? NO : strip(n);
        }

        private int strip(Spec n) {
            int gone = 0;
            for (Spec child : n.children) {
                gone += 1 + strip(child);
                nodes.remove(child.number);
            }
            n.law = 0;
            n.proved = false;
            n.children = new ArrayList<>();
            n.conditions = new ArrayList<>();
            return gone;
        }

        int node(int node, int what) {
            Spec n = nodes.get(node);
            if (n == null || what < 0 || what > 5) {
                return BAD;
            }
            int allProved = n.law != 0 && (n.proved || n.conditions.isEmpty()) ? 1 : 0;
            int one = n.children.size() > 0 ? n.children.get(0).number : 0;
            int two = n.children.size() > 1 ? n.children.get(1).number : 0;
            return new int[] {n.frame, n.law, one, two, n.conditions.size(), allProved}[what];
        }

        int text(int node, int which, int i) {
            Spec n = nodes.get(node);
            if (n == null) {
                return BAD;
            }
            List<String> all = new ArrayList<>();
            all.add(n.pre);
            all.add(n.post);
            all.addAll(n.conditions);
            if (which < 0 || which >= all.size() || i < 0 || i >= all.get(which).length()) {
                return BAD;
            }
            return all.get(which).charAt(i);
        }

        /** Rows of kind, goal and text; the goals count from the first row of the list. */
        private List<Object[]> rows(Spec n) {
            List<Object[]> made = new ArrayList<>();
            if (n.law == 2) {
                made.add(new Object[] {1, n.variable, n.part});
            } else if (n.law == 4) {
                List<Object[]> yes = rows(n.children.get(0));
                List<Object[]> no = rows(n.children.get(1));
                made.add(new Object[] {2, yes.size() + 2, n.part});
                addMoved(made, yes);
                made.add(new Object[] {3, yes.size() + no.size() + 2, ""});
                addMoved(made, no);
            } else if (n.law == 5) {
                List<Object[]> again = rows(n.children.get(0));
                made.add(new Object[] {2, again.size() + 2, n.part});
                addMoved(made, again);
                made.add(new Object[] {3, 0, ""});
            } else {
                for (Spec child : n.children) {
                    addMoved(made, rows(child));
                }
            }
            return made;
        }

        private static void addMoved(List<Object[]> made, List<Object[]> more) {
            int by = made.size();
            for (Object[] row : more) {
                int goal = (Integer) row[1] + ((Integer) row[0] == 1 ? 0 : by);
                made.add(new Object[] {row[0], goal, row[2]});
            }
        }

        private List<Object[]> wholeProgram() {
            if (open() > 0 || nodes.isEmpty()) {
                return null;
            }
            List<Object[]> all = rows(nodes.get(1));
            all.add(new Object[] {4, 0, ""});
            return all;
        }

        int program() {
            List<Object[]> all = wholeProgram();
            return all == null ? NO : all.size();
        }

        int instruction(int i, int what) {
            List<Object[]> all = wholeProgram();
            if (all == null) {
                return NO;
            }
            return i < 0 || i >= all.size() || what < 0 || what > 1 ? BAD : (Integer) all.get(i)[what];
        }

        int run(int a, int b, int c, int fuel) {
            List<Object[]> all = wholeProgram();
            if (all == null) {
                return NO;
            }
            if (fuel < 0 || fuel > 1000) {
                return BAD;
            }
            int[] state = {Math.floorMod(a, 8), Math.floorMod(b, 8), Math.floorMod(c, 8), 5, 6};
            int at = 0;
            int did = 0;
            for (; did < fuel && at < all.size() - 1; did++) {
                Object[] row = all.get(at++);
                int kind = (Integer) row[0];
                if (kind == 1) {
                    state[(Integer) row[1]] = Worth.of((String) row[2], state);
                } else if (kind == 3 || Worth.of((String) row[2], state) == 0) {
                    at = (Integer) row[1];
                }
            }
            System.arraycopy(state, 0, after, 0, 3);
            after[3] = at == all.size() - 1 ? 1 : 0;
            return did;
        }

        int after(int v) {
            return v >= 0 && v <= 3 ? after[v] : BAD;
        }
    }
}
