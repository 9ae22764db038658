/**
 * "when nothing is open, the tree is a program, and it does what the first specification says":
 * chosen trees are made from what shall hold behind, and run from every state. They are made once
 * more with faults in them: what is not refused and has nothing open does what it says, too.
 */
public final class FirstSpecificationTest extends Checks {
    private static final int TREES = 300;
    /** Making a tree and running it this often takes less than 512 calls. */
    private static final int RUNS_OF_ONE_OBJECT = 60;
    private static final int LONGEST = 40;
    private static final int MOST_NODES = 16;

    private static final int[] USED = new int[NARROWER + 1];
    private static long seed = 20261116L;
    private static int looked = 0;
    private static boolean spoiling = false;
    private static int refused = 0;
    private static int spoiltPrograms = 0;

    public static void main(String[] args) {
        test("it does what the first specification says");
        for (int made = 0, tried = 0; made < TREES && tried < 100 * TREES; tried++) {
            Plan plan = planFor(someFormula(2), 4);
            if (plan.nodes >= 3 && plan.nodes <= MOST_NODES && plan.fits) {
                lookAtGood(plan);
                lookAtSpoilt(plan);
                made++;
            }
        }
        for (int law = SKIP; law <= NARROWER; law++) {
            due("law " + law + " is used often", USED[law] >= 300 ? 1 : 0, 1);
        }
        due("faults are refused", refused >= 1000 ? 1 : 0, 1);
        due("or do no harm", spoiltPrograms >= 300 ? 1 : 0, 1);
        due("many runs are looked at", looked >= 100000 ? 1 : 0, 1);
        end("the programs do what the first specification says");
    }

    /** A number below the bound; a generator of our own, so that every machine makes the same trees. */
    private static int pick(int bound) {
        seed = seed * 6364136223846793005L + 1442695040888963407L;
        return (int) ((seed >>> 33) % bound);
    }

    private static String someTerm(int depth, String letters) {
        if (depth == 0 || pick(2) == 0) {
            return String.valueOf(letters.charAt(pick(letters.length())));
        }
        return "+-*".charAt(pick(3)) + someTerm(depth - 1, letters) + someTerm(depth - 1, letters);
    }

    private static String someFormula(int depth) {
        if (depth == 0 || pick(2) == 0) {
            return someComparison("0357abcabcxx");
        }
        return "&|>".charAt(pick(3)) + someFormula(depth - 1) + someFormula(depth - 1);
    }

    private static String someComparison(String letters) {
        return "=<".charAt(pick(2)) + someTerm(1, letters) + someTerm(1, letters);
    }

    /** A tree that is not made yet: it needs this pre for its post. */
    private abstract static class Plan {
        final String post;
        String pre;
        int nodes = 1;
        int changes;
        boolean fits;

        Plan(String post) {
            this.post = post;
            this.fits = post.length() <= LONGEST;
        }

        final void need(String pre) {
            this.pre = pre;
            fits = fits && pre.length() <= LONGEST;
        }

        final void takeIn(Plan child) {
            nodes += child.nodes;
            changes |= child.changes;
            fits = fits && child.fits;
        }

        /** Refines a node whose pre is at least as strong as this one's by plan, and proves all. */
        abstract void make(RefinementBench x, int node);

        static int step(RefinementBench x, int node, int law, int v) {
            if (spoiling) {
                int child = x.refine(node, law, pick(8) == 0 ? pick(8) : v);
                x.prove(node);
                return child;
            }
            USED[law]++;
            int child = x.refine(node, law, v);
            due("refine(" + node + ", " + law + ", " + v + ") is not refused", child >= 0 ? 1 : 0, 1);
            due("prove(" + node + ")", x.prove(node), 1);
            return child;
        }

        static void give(RefinementBench x, int slot, String text) {
            set(x, slot, spoiling && pick(8) == 0 ? spoilt(text) : text);
        }
    }

    private static Plan planFor(String post, int depth) {
        switch (depth == 0 ? pick(2) : pick(9)) {
            case 0:
                return new Skip(post);
            case 1:
            case 2:
                return new Assign(post, pick(3), someTerm(1, "01236abcabc"));
            case 3:
                return new Sequence(post, depth - 1);
            case 4:
                return new Alternative(post, someComparison("0246abcabc"), depth - 1);
            case 5:
                return new Loop(post, pick(3), pick(2) == 0);
            case 6:
                return new Stronger(post, depth - 1);
            case 7:
                return new Weaker(post, depth - 1);
            default:
                return new Narrower(post, depth - 1);
        }
    }

    private static String letter(int v) {
        return "abc".substring(v, v + 1);
    }

    private static final class Skip extends Plan {
        Skip(String post) {
            super(post);
            need(post);
        }

        @Override
        void make(RefinementBench x, int node) {
            step(x, node, SKIP, 0);
        }
    }

    private static final class Assign extends Plan {
        private final int v;
        private final String term;

        Assign(String post, int v, String term) {
            super(post);
            this.v = v;
            this.term = term;
            changes = 1 << v;
            need(post.replace(letter(v), term));
        }

        @Override
        void make(RefinementBench x, int node) {
            give(x, 3, term);
            step(x, node, ASSIGN, v);
        }
    }

    private static final class Sequence extends Plan {
        private final Plan one;
        private final Plan two;

        Sequence(String post, int depth) {
            super(post);
            two = planFor(post, depth);
            one = planFor(two.pre, depth);
            takeIn(one);
            takeIn(two);
            need(one.pre);
        }

        @Override
        void make(RefinementBench x, int node) {
            give(x, 0, two.pre);
            int child = step(x, node, SEQUENCE, 0);
            int second = x.node(node, 3);
            one.make(x, child);
            two.make(x, second);
        }
    }

    private static final class Alternative extends Plan {
        private final String asked;
        private final Plan yes;
        private final Plan no;

        Alternative(String post, String asked, int depth) {
            super(post);
            this.asked = asked;
            yes = planFor(post, depth);
            no = planFor(post, depth);
            takeIn(yes);
            takeIn(no);
            nodes += 2;
            need("&>" + asked + yes.pre + "|" + asked + no.pre);
        }

        @Override
        void make(RefinementBench x, int node) {
            give(x, 0, asked);
            int child = step(x, node, ALTERNATIVE, 0);
            int second = x.node(node, 3);
            give(x, 0, yes.pre);
            yes.make(x, step(x, child, WEAKER, 0));
            give(x, 0, no.pre);
            no.make(x, step(x, second, WEAKER, 0));
        }
    }

    /** Counts a variable up to 7 or down to 0; all rounds keep what the post says with that number. */
    private static final class Loop extends Plan {
        private final int v;
        private final boolean up;

        Loop(String post, int v, boolean up) {
            super(post);
            this.v = v;
            this.up = up;
            changes = 1 << v;
            nodes += 2;
            need(post.replace(letter(v), up ? "7" : "0"));
        }

        @Override
        void make(RefinementBench x, int node) {
            give(x, 0, pre);
            give(x, 1, "!=" + letter(v) + (up ? "7" : "0"));
            give(x, 3, up ? "-7" + letter(v) : letter(v));
            int round = step(x, node, LOOP, 0);
            int narrower = step(x, round, NARROWER, 1 << v);
            give(x, 3, (up ? "+" : "-") + letter(v) + "1");
            step(x, narrower, ASSIGN, v);
        }
    }

    private static final class Stronger extends Plan {
        private final Plan child;

        Stronger(String post, int depth) {
            super(post);
            child = planFor("&" + post + someComparison("07abcx"), depth);
            takeIn(child);
            need(child.pre);
        }

        @Override
        void make(RefinementBench x, int node) {
            give(x, 0, child.post);
            child.make(x, step(x, node, STRONGER, 0));
        }
    }

    private static final class Weaker extends Plan {
        private final Plan child;

        Weaker(String post, int depth) {
            super(post);
            child = planFor(post, depth);
            takeIn(child);
            need("&" + someComparison("07abcx") + child.pre);
        }

        @Override
        void make(RefinementBench x, int node) {
            give(x, 0, child.pre);
            child.make(x, step(x, node, WEAKER, 0));
        }
    }

    private static final class Narrower extends Plan {
        private final Plan child;

        Narrower(String post, int depth) {
            super(post);
            child = planFor(post, depth);
            takeIn(child);
            need(child.pre);
        }

        @Override
        void make(RefinementBench x, int node) {
            child.make(x, step(x, node, NARROWER, child.changes));
        }
    }

    /** One character is another one of its kind, so that it still is a text. */
    private static String spoilt(String text) {
        int at = pick(text.length());
        for (String kind : new String[] {"01234567abcx", "+-*", "=<", "&|>"}) {
            if (kind.indexOf(text.charAt(at)) >= 0) {
                return text.substring(0, at) + kind.charAt(pick(kind.length())) + text.substring(at + 1);
            }
        }
        return text;
    }

    private static void lookAtGood(Plan plan) {
        int frame = plan.changes | pick(8);
        for (int from = 0; from < 512; from += RUNS_OF_ONE_OBJECT) {
            RefinementBench x = begun(frame, plan.pre, plan.post);
            plan.make(x, 1);
            dueOpen(x, 0, 0);
            runSome(x, plan, frame, from);
        }
    }

    private static void lookAtSpoilt(Plan plan) {
        spoiling = true;
        for (int i = 0; i < 20; i++) {
            int frame = pick(4) == 0 ? pick(8) : plan.changes;
            int from = pick(512 / RUNS_OF_ONE_OBJECT + 1) * RUNS_OF_ONE_OBJECT;
            RefinementBench x = begun(frame, plan.pre, plan.post);
            plan.make(x, 1);
            if (x.open() == 0) {
                spoiltPrograms++;
                runSome(x, plan, frame, from);
            } else {
                refused++;
            }
        }
        spoiling = false;
    }

    private static void runSome(RefinementBench x, Plan plan, int frame, int from) {
        for (int abc = from; abc < 512 && abc < from + RUNS_OF_ONE_OBJECT; abc++) {
            runFrom(x, plan, frame, new int[] {abc >> 6, abc >> 3 & 7, abc & 7});
        }
    }

    private static void runFrom(RefinementBench x, Plan plan, int frame, int[] before) {
        String name = plan.pre + " to " + plan.post + " from " + before[0] + before[1] + before[2];
        due(name + " is run", x.run(before[0], before[1], before[2], 1000) >= 0 ? 1 : 0, 1);
        int[] after = {x.after(0), x.after(1), x.after(2)};
        int cameToEnd = x.after(3);
        for (int v = 0; v < 3; v++) {
            if ((frame >> v & 1) == 0) {
                due(name + ": outside the frame", after[v], before[v]);
            }
        }
        for (int constant = 0; constant < 8; constant++) {
            if (Worth.of(plan.pre, new int[] {before[0], before[1], before[2], constant, 0}) == 1) {
                looked++;
                due(name + " comes to END", cameToEnd, 1);
                int[] behind = {after[0], after[1], after[2], constant, 0};
                due(name + " with x = " + constant, Worth.of(plan.post, behind), 1);
            }
        }
    }
}
