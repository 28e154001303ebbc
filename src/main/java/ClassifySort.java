/** Sorts classes by what a reasoner answers, and asks it only what is not known yet. */
public final class ClassifySort {
    public static final int UNKNOWN = -1;
    public static final int RANGE = -2;
    public static final int NOT_NOW = -3;
    public static final int FULL = -4;
    public static final int CLASH = -5;
    public static final int NONE = -6;

    private static final int MAX_CLASSES = 20;
    private static final int MAX_THINGS = 8;
    private static final int MAX_AXIOMS = 40;
    private static final int MAX_FUEL = 20;

    // NOTHING has the slot behind all classes, so that a set of classes and NOTHING fits in one int.
    private static final int NOTHING = MAX_CLASSES;
    private static final int SLOTS = MAX_CLASSES + 1;
    private static final int TOLD_NOTHING = -1;
    private static final int OPEN_ROW = 32;
    private static final int OPEN_NOTHING = 31;

    private static final int NO = 0;
    private static final int YES = 1;
    private static final int OPEN = 2;
    private static final int UNASKED = 3;

    private final Axioms axioms = new Axioms();
    private final Reasoner reasoner = new Reasoner(axioms);
    private final Knowledge knowledge = new Knowledge();
    private final Order order = new Order(knowledge, reasoner);
    private final int[] toldClasses = new int[MAX_THINGS];
    private int classes = 0;
    private int things = 0;
    private int questions = 0;
    private boolean sorted = false;

    public ClassifySort() {
    }

    public int class0() {
        if (classes >= MAX_CLASSES) {
            return FULL;
        }
        knowledge.addClass(classes);
        sorted = false;
        classes++;
        return classes - 1;
    }

    public int thing() {
        if (things >= MAX_THINGS) {
            return FULL;
        }
        things++;
        return things - 1;
    }

    public int axiom(int left, int other, int right) {
        boolean alone = other == -1;
        if (!isClass(left) || !(alone || isClass(other)) || !isGoal(right)) {
            return UNKNOWN;
        }
        if (other == left) {
            return RANGE;
        }
        if (axioms.isFull()) {
            return FULL;
        }
        int number = axioms.add(alone ? bit(left) : bit(left) | bit(other), slot(right));
        knowledge.forgetNo(axioms.touchedBy(number));
        tellAxioms();
        sorted = false;
        return number;
    }

    public int remove(int axiom) {
        if (!axioms.isThere(axiom)) {
            return UNKNOWN;
        }
        int before = knowledge.knownPairs(classes);
        int touched = axioms.touchedBy(axiom);
        axioms.drop(axiom);
        knowledge.forgetYes(touched);
        tellAxioms();
        sorted = false;
        // All was closed before with more YES than now, so closing again makes nothing known that was not.
        return before - knowledge.knownPairs(classes);
    }

    public int fuel(int n) {
        if (n < 0 || n > MAX_FUEL) {
            return RANGE;
        }
        int open = knowledge.openPairs(classes);
        reasoner.fillUp(n);
        knowledge.forgetOpen();
        sorted = false;
        return open;
    }

    public int known(int a, int b) {
        if (!isClass(a) || !isGoal(b)) {
            return UNKNOWN;
        }
        return knowledge.of(a, slot(b));
    }

    public int ask(int a, int b) {
        if (!isClass(a) || !isGoal(b)) {
            return UNKNOWN;
        }
        return reasoner.decide(bit(a), slot(b));
    }

    public int run() {
        int asked = order.sort(classes);
        questions += asked;
        sorted = true;
        return asked;
    }

    public int parent(int class0, int i) {
        if (!isClass(class0)) {
            return UNKNOWN;
        }
        if (!sorted) {
            return NOT_NOW;
        }
        int above = order.isEmptyClass(class0) ? order.lowest() : order.directlyAbove(class0);
        return pick(order.firstOfSame(above), i);
    }

    public int child(int class0, int i) {
        if (!isClass(class0)) {
            return UNKNOWN;
        }
        if (!sorted) {
            return NOT_NOW;
        }
        int below = order.isEmptyClass(class0) ? 0 : order.directlyBelow(class0);
        return pick(order.firstOfSame(below), i);
    }

    public int equal(int class0, int i) {
        if (!isClass(class0)) {
            return UNKNOWN;
        }
        if (!sorted) {
            return NOT_NOW;
        }
        return pick(knowledge.sameAs(class0) & ~bit(NOTHING), i);
    }

    public int empty(int i) {
        if (!sorted) {
            return NOT_NOW;
        }
        return pick(order.emptyClasses(), i);
    }

    public int open(int i) {
        int rest = i;
        for (int a = 0; a < classes; a++) {
            int pairs = knowledge.openOf(a);
            int here = pick(pairs, rest);
            if (here != NONE) {
                return OPEN_ROW * a + (here == NOTHING ? OPEN_NOTHING : here);
            }
            rest -= Integer.bitCount(pairs);
        }
        return NONE;
    }

    public int put(int thing, int class0) {
        if (!isThing(thing) || !isClass(class0)) {
            return UNKNOWN;
        }
        if (has(toldClasses[thing], class0)) {
            return 0;
        }
        toldClasses[thing] |= bit(class0);
        return 1;
    }

    public int type(int thing, int i) {
        if (!isThing(thing)) {
            return UNKNOWN;
        }
        if (!sorted) {
            return NOT_NOW;
        }
        if (reasoner.decide(toldClasses[thing], NOTHING) == YES) {
            return CLASH;
        }
        // Asked for a class the reasoner fires the same axioms and only stops earlier,
        // so the facts that it has now are the classes that it says YES to.
        return pick(order.firstOfSame(order.lowestAmong(reasoner.facts())), i);
    }

    public int trace(int a, int b, int i) {
        if (!isClass(a) || !isGoal(b)) {
            return UNKNOWN;
        }
        if (reasoner.decide(bit(a), slot(b)) != YES) {
            return NONE;
        }
        int step = pick(reasoner.neededSteps(), i);
        return step == NONE ? NONE : reasoner.firedAt(step);
    }

    public int count(int what) {
        switch (what) {
            case 0:
                return classes;
            case 1:
                return axioms.thereNow();
            case 2:
                return things;
            case 3:
                return questions;
            case 4:
                return knowledge.openPairs(classes);
            case 5:
                return sorted ? 1 : 0;
            case 6:
                return sorted ? Integer.bitCount(order.placedClasses()) : 0;
            default:
                return RANGE;
        }
    }

    private boolean isClass(int number) {
        return number >= 0 && number < classes;
    }

    private boolean isThing(int number) {
        return number >= 0 && number < things;
    }

    private boolean isGoal(int number) {
        return number == TOLD_NOTHING || isClass(number);
    }

    private void tellAxioms() {
        for (int n = 0; n < MAX_AXIOMS; n++) {
            int left = axioms.leftOf(n);
            if (Integer.bitCount(left) == 1) {
                knowledge.tellYes(Integer.numberOfTrailingZeros(left), axioms.rightOf(n));
            }
        }
        knowledge.close();
    }

    private static int slot(int goal) {
        return goal == TOLD_NOTHING ? NOTHING : goal;
    }

    private static int bit(int slot) {
        return 1 << slot;
    }

    private static boolean has(int set, int slot) {
        return (set & bit(slot)) != 0;
    }

    /** The i-th member of a set, by numbers. */
    private static int pick(int set, int i) {
        int rest = i;
        for (int n = 0; n < SLOTS; n++) {
            if (has(set, n)) {
                if (rest == 0) {
                    return n;
                }
                rest--;
            }
        }
        return NONE;
    }

    /** The axioms by their numbers; one that went has an empty left. */
    private static final class Axioms {
        private final int[] lefts = new int[MAX_AXIOMS];
        private final int[] rights = new int[MAX_AXIOMS];
        private int made = 0;
        private int there = 0;

        boolean isFull() {
            return made >= MAX_AXIOMS;
        }

        boolean isThere(int number) {
            return leftOf(number) != 0;
        }

        int thereNow() {
            return there;
        }

        int leftOf(int number) {
            return number >= 0 && number < made ? lefts[number] : 0;
        }

        int rightOf(int number) {
            return number >= 0 && number < made ? rights[number] : NOTHING;
        }

        int add(int left, int right) {
            if (isFull()) {
                return FULL;
            }
            lefts[made] = left;
            rights[made] = right;
            made++;
            there++;
            return made - 1;
        }

        void drop(int number) {
            if (isThere(number)) {
                lefts[number] = 0;
                there--;
            }
        }

        /** The least axiom that can fire, or NONE. */
        int firstThatFires(int facts) {
            for (int n = 0; n < made; n++) {
                int left = lefts[n];
                if (left != 0 && (left & ~facts) == 0 && !has(facts, rights[n])) {
                    return n;
                }
            }
            return NONE;
        }

        /**
         * The classes that an axiom touches. Modules grow from left to all of an axiom; walking that
         * backwards from the axiom's left finds every class whose module meets it, without making modules.
         */
        int touchedBy(int number) {
            int touched = leftOf(number);
            for (int round = 0; round < MAX_CLASSES; round++) {
                int before = touched;
                for (int n = 0; n < made; n++) {
                    if (lefts[n] != 0 && ((lefts[n] | bit(rights[n])) & touched) != 0) {
                        touched |= lefts[n];
                    }
                }
                if (touched == before) {
                    return touched;
                }
            }
            return touched;
        }
    }

    /** Fires axioms from a start; keeps the facts and the axioms that fired of the last answer. */
    private static final class Reasoner {
        private final Axioms axioms;
        private final int[] fired = new int[MAX_FUEL];
        private int limit = MAX_FUEL;
        private int steps = 0;
        private int facts = 0;

        Reasoner(Axioms axioms) {
            this.axioms = axioms;
        }

        void fillUp(int n) {
            limit = Math.max(0, Math.min(n, MAX_FUEL));
        }

        int facts() {
            return facts;
        }

        int firedAt(int step) {
            return step >= 0 && step < steps ? fired[step] : NONE;
        }

        int decide(int start, int goal) {
            int ends = bit(goal) | bit(NOTHING);
            facts = start;
            steps = 0;
            for (int round = 0; round <= MAX_FUEL; round++) {
                if ((facts & ends) != 0) {
                    return YES;
                }
                int next = axioms.firstThatFires(facts);
                if (next == NONE) {
                    return NO;
                }
                if (steps >= limit) {
                    return OPEN;
                }
                fired[steps] = next;
                steps++;
                facts |= bit(axioms.rightOf(next));
            }
            return OPEN;
        }

        /** The steps that the last one needs: each class was made a fact by one step at most, and by an earlier one. */
        int neededSteps() {
            int needed = 0;
            int wanted = steps > 0 ? bit(axioms.rightOf(fired[steps - 1])) : 0;
            for (int step = steps - 1; step >= 0; step--) {
                if (has(wanted, axioms.rightOf(fired[step]))) {
                    needed |= bit(step);
                    wanted |= axioms.leftOf(fired[step]);
                }
            }
            return needed;
        }
    }

    /** What is known of pairs: for each slot the sets of those it is below, is not below, and is open to. */
    private static final class Knowledge {
        private final int[] above = new int[SLOTS];
        private final int[] below = new int[SLOTS];
        private final int[] notAbove = new int[SLOTS];
        private final int[] undecided = new int[SLOTS];

        Knowledge() {
            above[NOTHING] = bit(NOTHING);
            below[NOTHING] = bit(NOTHING);
        }

        void addClass(int c) {
            above[c] = bit(c);
            below[c] = bit(c);
            tellYes(NOTHING, c);
            close();
        }

        int of(int a, int b) {
            if (has(above[a], b)) {
                return YES;
            }
            if (has(notAbove[a], b)) {
                return NO;
            }
            return has(undecided[a], b) ? OPEN : UNASKED;
        }

        int allAbove(int c) {
            return above[c];
        }

        int allBelow(int c) {
            return below[c];
        }

        int strictlyAbove(int c) {
            return above[c] & ~below[c];
        }

        int strictlyBelow(int c) {
            return below[c] & ~above[c];
        }

        int sameAs(int c) {
            return above[c] & below[c];
        }

        int openOf(int c) {
            return undecided[c];
        }

        void learn(int a, int b, int answer) {
            if (answer == YES) {
                tellYes(a, b);
            } else if (answer == NO) {
                notAbove[a] |= bit(b);
            } else {
                undecided[a] |= bit(b);
            }
            close();
        }

        /** Keeps YES closed, as it was closed before: all below a are now below all above b. */
        void tellYes(int a, int b) {
            if (has(above[a], b)) {
                return;
            }
            int lower = below[a];
            int upper = above[b];
            for (int c = 0; c < SLOTS; c++) {
                if (has(lower, c)) {
                    above[c] |= upper;
                }
                if (has(upper, c)) {
                    below[c] |= lower;
                }
            }
        }

        /** Closes NO over the closed YES, and takes from OPEN what is YES or NO. */
        void close() {
            for (int c = 0; c < SLOTS; c++) {
                int no = union(notAbove, below[c]);
                notAbove[c] = union(below, no);
                undecided[c] &= ~(above[c] | notAbove[c]);
            }
        }

        void forgetNo(int touched) {
            for (int c = 0; c < MAX_CLASSES; c++) {
                if (has(touched, c)) {
                    notAbove[c] = 0;
                    undecided[c] = 0;
                }
            }
        }

        /** What is left of YES stays closed: the rows that stay stay whole, the others hold themselves alone. */
        void forgetYes(int touched) {
            for (int c = 0; c < SLOTS; c++) {
                below[c] &= ~touched;
                if (has(touched, c)) {
                    above[c] = bit(c);
                    below[c] |= bit(c);
                    undecided[c] = 0;
                }
            }
        }

        void forgetOpen() {
            for (int c = 0; c < SLOTS; c++) {
                undecided[c] = 0;
            }
        }

        int knownPairs(int classes) {
            int pairs = 0;
            for (int c = 0; c < classes && c < MAX_CLASSES; c++) {
                pairs += Integer.bitCount(above[c] | notAbove[c] | undecided[c]);
            }
            return pairs;
        }

        int openPairs(int classes) {
            int pairs = 0;
            for (int c = 0; c < classes && c < MAX_CLASSES; c++) {
                pairs += Integer.bitCount(undecided[c]);
            }
            return pairs;
        }

        private static int union(int[] rows, int which) {
            int all = 0;
            for (int c = 0; c < SLOTS; c++) {
                if (has(which, c)) {
                    all |= rows[c];
                }
            }
            return all;
        }
    }

    /** The placed and the EMPTY classes. */
    private static final class Order {
        private final Knowledge knowledge;
        private final Reasoner reasoner;
        private int placed = 0;
        private int empties = 0;
        private int asked = 0;

        Order(Knowledge knowledge, Reasoner reasoner) {
            this.knowledge = knowledge;
            this.reasoner = reasoner;
        }

        int placedClasses() {
            return placed;
        }

        int emptyClasses() {
            return empties;
        }

        boolean isEmptyClass(int c) {
            return has(empties, c);
        }

        /** Sorts all classes anew; answers how many questions that took. */
        int sort(int classes) {
            placed = 0;
            empties = 0;
            asked = 0;
            for (int c = 0; c < classes && c < MAX_CLASSES; c++) {
                if (answer(c, NOTHING) == YES) {
                    empties |= bit(c);
                } else {
                    searchDown(c);
                    searchUp(c);
                    placed |= bit(c);
                }
            }
            return asked;
        }

        private int answer(int a, int b) {
            if (knowledge.of(a, b) == UNASKED) {
                asked++;
                knowledge.learn(a, b, reasoner.decide(bit(a), b));
            }
            return knowledge.of(a, b);
        }

        private void searchDown(int c) {
            int waiting = placed;
            for (int round = 0; round < MAX_CLASSES; round++) {
                int next = nextDown(c, waiting);
                if (next == NONE) {
                    return;
                }
                waiting &= ~bit(next);
                answer(c, next);
            }
        }

        private void searchUp(int c) {
            int waiting = placed;
            for (int round = 0; round < MAX_CLASSES; round++) {
                int next = nextUp(c, waiting);
                if (next == NONE) {
                    return;
                }
                waiting &= ~bit(next);
                answer(next, c);
            }
        }

        // In nextDown and nextUp all that is strictly above (below) stands for what is directly so:
        // each of these is, as YES is closed, above (below) one that is directly so.
        private int nextDown(int c, int waiting) {
            int found = knowledge.allAbove(c);
            for (int d = 0; d < MAX_CLASSES; d++) {
                if (has(waiting, d) && (knowledge.strictlyAbove(d) & placed & ~found) == 0) {
                    return d;
                }
            }
            return NONE;
        }

        private int nextUp(int c, int waiting) {
            int uppers = knowledge.allAbove(c) & placed;
            int found = knowledge.allBelow(c);
            for (int d = 0; d < MAX_CLASSES; d++) {
                if (has(waiting, d) && (uppers & ~knowledge.allAbove(d)) == 0
                        && (knowledge.strictlyBelow(d) & placed & ~found) == 0) {
                    return d;
                }
            }
            return NONE;
        }

        int directlyAbove(int c) {
            int uppers = knowledge.strictlyAbove(c) & placed;
            int direct = 0;
            for (int d = 0; d < MAX_CLASSES; d++) {
                if (has(uppers, d) && (uppers & knowledge.strictlyBelow(d)) == 0) {
                    direct |= bit(d);
                }
            }
            return direct;
        }

        int directlyBelow(int c) {
            int lowers = knowledge.strictlyBelow(c) & placed;
            int direct = 0;
            for (int d = 0; d < MAX_CLASSES; d++) {
                if (has(lowers, d) && (lowers & knowledge.strictlyAbove(d)) == 0) {
                    direct |= bit(d);
                }
            }
            return direct;
        }

        /** The placed classes with nothing directly below. */
        int lowest() {
            return lowestAmong(placed);
        }

        /** The placed classes of a set with none of the set directly below. */
        int lowestAmong(int set) {
            int low = 0;
            for (int d = 0; d < MAX_CLASSES; d++) {
                if (has(set & placed, d) && (directlyBelow(d) & set) == 0) {
                    low |= bit(d);
                }
            }
            return low;
        }

        /** A set of placed classes without those that a lesser placed class is the same as. */
        int firstOfSame(int set) {
            int first = 0;
            for (int d = 0; d < MAX_CLASSES; d++) {
                if (has(set, d) && (knowledge.sameAs(d) & placed & (bit(d) - 1)) == 0) {
                    first |= bit(d);
                }
            }
            return first;
        }
    }
}
