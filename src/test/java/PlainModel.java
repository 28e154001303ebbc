import java.util.ArrayList;
import java.util.List;
import java.util.Set;
import java.util.TreeSet;

/** The document's words as plainly as can be, with tables and loops to a fixed point: what ModelTest compares with. */
final class PlainModel {
    static final int NOTHING = 20;
    static final int NO = 0;
    static final int YES = 1;
    static final int OPEN = 2;
    static final int UNASKED = 3;

    private static final class Axiom {
        final Set<Integer> left = new TreeSet<>();
        int right;
        boolean there = true;

        Set<Integer> members() {
            Set<Integer> all = new TreeSet<>(left);
            if (right != NOTHING) {
                all.add(right);
            }
            return all;
        }
    }

    private static final class Answer {
        int said;
        Set<Integer> facts = new TreeSet<>();
        List<Integer> fired = new ArrayList<>();
    }

    int classes = 0;
    final int[][] known = new int[21][21];
    private final List<Axiom> axioms = new ArrayList<>();
    private final List<Set<Integer>> things = new ArrayList<>();
    private int fuel = 20;
    private int questions = 0;
    private boolean sorted = false;
    private final Set<Integer> placed = new TreeSet<>();
    private final Set<Integer> empty = new TreeSet<>();

    PlainModel() {
        for (int[] row : known) {
            java.util.Arrays.fill(row, UNASKED);
        }
        close();
    }

    private List<Integer> slots() {
        List<Integer> all = new ArrayList<>();
        for (int c = 0; c < classes; c++) {
            all.add(c);
        }
        all.add(NOTHING);
        return all;
    }

    private boolean below(int a, int b) {
        return known[a][b] == YES;
    }

    private boolean byItself(int a, int b) {
        if (a == b || a == NOTHING) {
            return true;
        }
        for (Axiom x : axioms) {
            if (x.there && x.left.size() == 1 && x.left.contains(a) && x.right == b) {
                return true;
            }
        }
        return false;
    }

    private void close() {
        List<Integer> all = slots();
        for (int a : all) {
            for (int b : all) {
                if (byItself(a, b)) {
                    known[a][b] = YES;
                }
            }
        }
        boolean more = true;
        while (more) {
            more = false;
            for (int a : all) {
                for (int b : all) {
                    if (below(a, b)) {
                        for (int c : all) {
                            if (below(b, c) && !below(a, c)) {
                                known[a][c] = YES;
                                more = true;
                            }
                        }
                    } else if (known[a][b] == NO) {
                        more |= spreadNo(all, a, b);
                    }
                }
            }
        }
    }

    private boolean spreadNo(List<Integer> all, int a, int b) {
        boolean more = false;
        for (int c : all) {
            if (!below(a, c)) {
                continue;
            }
            for (int d : all) {
                if (below(d, b) && known[c][d] != NO) {
                    if (known[c][d] == YES) {
                        throw new IllegalStateException("YES and NO for one pair");
                    }
                    known[c][d] = NO;
                    more = true;
                }
            }
        }
        return more;
    }

    private Set<Integer> module(int c) {
        Set<Integer> in = new TreeSet<>();
        in.add(c);
        boolean more = true;
        while (more) {
            more = false;
            for (Axiom x : axioms) {
                if (x.there && x.left.stream().anyMatch(in::contains)) {
                    more |= in.addAll(x.members());
                }
            }
        }
        return in;
    }

    private boolean touched(int c, Axiom by) {
        Set<Integer> in = module(c);
        return by.left.stream().anyMatch(in::contains);
    }

    private Answer reason(Set<Integer> start, int goal) {
        Answer answer = new Answer();
        answer.facts.addAll(start);
        while (true) {
            if (answer.facts.contains(goal) || answer.facts.contains(NOTHING)) {
                answer.said = YES;
                return answer;
            }
            int next = -1;
            for (int n = axioms.size() - 1; n >= 0; n--) {
                Axiom x = axioms.get(n);
                if (x.there && answer.facts.containsAll(x.left) && !answer.facts.contains(x.right)) {
                    next = n;
                }
            }
            if (next < 0 || answer.fired.size() == fuel) {
                answer.said = next < 0 ? NO : OPEN;
                return answer;
            }
            answer.fired.add(next);
            answer.facts.add(axioms.get(next).right);
        }
    }

    private boolean isClass(int c) {
        return c >= 0 && c < classes;
    }

    private boolean isGoal(int b) {
        return b == -1 || isClass(b);
    }

    private static int slot(int b) {
        return b == -1 ? NOTHING : b;
    }

    int class0() {
        if (classes == 20) {
            return -4;
        }
        classes++;
        sorted = false;
        close();
        return classes - 1;
    }

    int thing() {
        if (things.size() == 8) {
            return -4;
        }
        things.add(new TreeSet<>());
        return things.size() - 1;
    }

    int axiom(int left, int other, int right) {
        if (!isClass(left) || !(other == -1 || isClass(other)) || !isGoal(right)) {
            return -1;
        }
        if (left == other) {
            return -2;
        }
        if (axioms.size() == 40) {
            return -4;
        }
        Axiom made = new Axiom();
        made.left.add(left);
        if (other != -1) {
            made.left.add(other);
        }
        made.right = slot(right);
        axioms.add(made);
        for (int a = 0; a < classes; a++) {
            if (touched(a, made)) {
                forget(a, NO);
            }
        }
        close();
        sorted = false;
        return axioms.size() - 1;
    }

    private void forget(int a, int what) {
        for (int b : slots()) {
            if (known[a][b] == what || known[a][b] == OPEN) {
                known[a][b] = UNASKED;
            }
        }
    }

    int remove(int number) {
        if (number < 0 || number >= axioms.size() || !axioms.get(number).there) {
            return -1;
        }
        int[][] before = new int[21][];
        for (int a = 0; a < 21; a++) {
            before[a] = known[a].clone();
        }
        Axiom gone = axioms.get(number);
        for (int a = 0; a < classes; a++) {
            if (touched(a, gone)) {
                forget(a, YES);
            }
        }
        gone.there = false;
        close();
        sorted = false;
        int lost = 0;
        for (int a = 0; a < classes; a++) {
            for (int b : slots()) {
                if (before[a][b] != UNASKED && known[a][b] == UNASKED) {
                    lost++;
                }
            }
        }
        return lost;
    }

    private List<Integer> openPairs() {
        List<Integer> pairs = new ArrayList<>();
        for (int a = 0; a < classes; a++) {
            for (int b : slots()) {
                if (known[a][b] == OPEN) {
                    pairs.add(32 * a + (b == NOTHING ? 31 : b));
                }
            }
        }
        return pairs;
    }

    int fuel(int n) {
        if (n < 0 || n > 20) {
            return -2;
        }
        int were = openPairs().size();
        for (int a = 0; a < classes; a++) {
            forget(a, OPEN);
        }
        fuel = n;
        sorted = false;
        return were;
    }

    int known(int a, int b) {
        return isClass(a) && isGoal(b) ? known[a][slot(b)] : -1;
    }

    int ask(int a, int b) {
        return isClass(a) && isGoal(b) ? reason(Set.of(a), slot(b)).said : -1;
    }

    private int question(int a, int b) {
        if (known[a][b] == UNASKED) {
            questions++;
            known[a][b] = reason(Set.of(a), b).said;
            close();
        }
        return known[a][b];
    }

    private boolean strictly(int a, int b) {
        return below(a, b) && !below(b, a);
    }

    private Set<Integer> directlyAbove(int c) {
        Set<Integer> found = new TreeSet<>();
        for (int d : placed) {
            if (strictly(c, d) && placed.stream().noneMatch(e -> strictly(c, e) && strictly(e, d))) {
                found.add(d);
            }
        }
        return found;
    }

    private Set<Integer> directlyBelow(int c) {
        Set<Integer> found = new TreeSet<>();
        for (int d : placed) {
            if (directlyAbove(d).contains(c)) {
                found.add(d);
            }
        }
        return found;
    }

    int run() {
        int before = questions;
        placed.clear();
        empty.clear();
        for (int c = 0; c < classes; c++) {
            if (question(c, NOTHING) == YES) {
                empty.add(c);
            } else {
                down(c);
                up(c);
                placed.add(c);
            }
        }
        sorted = true;
        return questions - before;
    }

    private void down(int c) {
        Set<Integer> looked = new TreeSet<>();
        while (true) {
            int next = -1;
            for (int d : placed) {
                if (next < 0 && !looked.contains(d) && directlyAbove(d).stream().allMatch(e -> below(c, e))) {
                    next = d;
                }
            }
            if (next < 0) {
                return;
            }
            looked.add(next);
            question(c, next);
        }
    }

    private void up(int c) {
        Set<Integer> looked = new TreeSet<>();
        while (true) {
            int next = -1;
            for (int d : placed) {
                if (next < 0 && !looked.contains(d)
                        && placed.stream().allMatch(p -> !below(c, p) || below(d, p))
                        && directlyBelow(d).stream().allMatch(e -> below(e, c))) {
                    next = d;
                }
            }
            if (next < 0) {
                return;
            }
            looked.add(next);
            question(next, c);
        }
    }

    private static int pick(List<Integer> of, int i) {
        return i >= 0 && i < of.size() ? of.get(i) : -6;
    }

    private List<Integer> firstOfSame(Set<Integer> of) {
        List<Integer> first = new ArrayList<>();
        for (int d : of) {
            if (placed.stream().noneMatch(e -> e < d && below(e, d) && below(d, e))) {
                first.add(d);
            }
        }
        return first;
    }

    int parent(int c, int i) {
        if (!isClass(c)) {
            return -1;
        }
        if (!sorted) {
            return -3;
        }
        if (!empty.contains(c)) {
            return pick(firstOfSame(directlyAbove(c)), i);
        }
        Set<Integer> lowest = new TreeSet<>();
        for (int d : placed) {
            if (directlyBelow(d).isEmpty()) {
                lowest.add(d);
            }
        }
        return pick(firstOfSame(lowest), i);
    }

    int child(int c, int i) {
        if (!isClass(c)) {
            return -1;
        }
        if (!sorted) {
            return -3;
        }
        return empty.contains(c) ? -6 : pick(firstOfSame(directlyBelow(c)), i);
    }

    int equal(int c, int i) {
        if (!isClass(c)) {
            return -1;
        }
        if (!sorted) {
            return -3;
        }
        List<Integer> same = new ArrayList<>();
        for (int d = 0; d < classes; d++) {
            if (below(c, d) && below(d, c)) {
                same.add(d);
            }
        }
        return pick(same, i);
    }

    int empty(int i) {
        return sorted ? pick(new ArrayList<>(empty), i) : -3;
    }

    int open(int i) {
        return pick(openPairs(), i);
    }

    int put(int thing, int c) {
        if (thing < 0 || thing >= things.size() || !isClass(c)) {
            return -1;
        }
        return things.get(thing).add(c) ? 1 : 0;
    }

    int type(int thing, int i) {
        if (thing < 0 || thing >= things.size()) {
            return -1;
        }
        if (!sorted) {
            return -3;
        }
        Set<Integer> start = things.get(thing);
        if (reason(start, NOTHING).said == YES) {
            return -5;
        }
        Set<Integer> in = new TreeSet<>();
        for (int d : placed) {
            if (reason(start, d).said == YES) {
                in.add(d);
            }
        }
        Set<Integer> lowest = new TreeSet<>();
        for (int d : in) {
            if (directlyBelow(d).stream().noneMatch(in::contains)) {
                lowest.add(d);
            }
        }
        return pick(firstOfSame(lowest), i);
    }

    int trace(int a, int b, int i) {
        if (!isClass(a) || !isGoal(b)) {
            return -1;
        }
        Answer answer = reason(Set.of(a), slot(b));
        if (answer.said != YES || answer.fired.isEmpty()) {
            return -6;
        }
        Set<Integer> needed = new TreeSet<>();
        need(answer, answer.fired.get(answer.fired.size() - 1), needed);
        List<Integer> inOrder = new ArrayList<>(answer.fired);
        inOrder.removeIf(x -> !needed.contains(x));
        return pick(inOrder, i);
    }

    private void need(Answer answer, int axiom, Set<Integer> needed) {
        needed.add(axiom);
        for (int maker : answer.fired) {
            if (!needed.contains(maker) && axioms.get(axiom).left.contains(axioms.get(maker).right)) {
                need(answer, maker, needed);
            }
        }
    }

    int count(int what) {
        switch (what) {
            case 0: return classes;
            case 1: return (int) axioms.stream().filter(x -> x.there).count();
            case 2: return things.size();
            case 3: return questions;
            case 4: return openPairs().size();
            case 5: return sorted ? 1 : 0;
            case 6: return sorted ? placed.size() : 0;
            default: return -2;
        }
    }
}
