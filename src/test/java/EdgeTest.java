import java.util.function.Supplier;
import java.util.function.ToIntFunction;

/**
 * The sections of the promises: each sentence with an edge (too small, too large, empty, full, wrap-around, refused)
 * has a test of its own. What a refused call or a look leaves behind is told by a twin that was spared it.
 */
public final class EdgeTest extends Checks {
    // Those at 31, 32, 33 and 64 are what a shift of an int would take for a small number.
    private static final int[] WRONG_CLASSES =
            {MIN, MIN + 1, MIN + 32, -64, -33, -32, -31, -3, -2, 3, 4, 19, 20, 21, 31, 32, 33, 34, 64, 65, MAX - 1, MAX};
    private static final int[] WRONG_INDEXES = {MIN, MIN + 1, MIN + 32, -64, -32, -2, -1, 20, 21, 31, 32, 64, 420, 421, MAX - 1, MAX};

    private static ClassifySort plain() {
        ClassifySort x = withClasses(3);
        axioms(x, ax(0, 1), ax(1, 2), ax(1, 2, 0));
        x.remove(2);
        thingIn(x, 0);
        thingIn(x);
        return x;
    }

    private static ClassifySort sorted() {
        ClassifySort x = plain();
        x.run();
        return x;
    }

    private static ClassifySort sortedWithOpen() {
        ClassifySort x = plain();
        x.fuel(0);
        x.run();
        return x;
    }

    private static ClassifySort openNotSorted() {
        ClassifySort x = sortedWithOpen();
        x.axiom(0, -1, 0);
        return x;
    }

    private static ClassifySort sortedWithEmpty() {
        ClassifySort x = plain();
        axioms(x, ax(1, -1));
        x.run();
        return x;
    }

    /** All that can be seen of an object with three classes and two things. */
    private static String seen(ClassifySort x) {
        StringBuilder all = new StringBuilder();
        for (int what = 0; what <= 6; what++) {
            all.append(x.count(what)).append(' ');
        }
        for (int a = 0; a < 3; a++) {
            for (int b = -1; b < 3; b++) {
                all.append("| ").append(x.known(a, b)).append(x.ask(a, b));
                all.append(x.trace(a, b, 0)).append(x.trace(a, b, 1)).append(x.trace(a, b, 2));
            }
            for (int i = 0; i < 3; i++) {
                all.append("/ ").append(x.parent(a, i)).append(x.child(a, i)).append(x.equal(a, i));
            }
        }
        for (int i = 0; i < 6; i++) {
            all.append(", ").append(x.empty(i)).append(' ').append(x.open(i));
            all.append(' ').append(x.type(0, i)).append(' ').append(x.type(1, i));
        }
        // Last, as these change it: what comes next.
        all.append(" next ").append(x.axiom(2, 0, 1)).append(x.thing()).append(x.put(0, 0)).append(x.put(0, 1));
        all.append(' ').append(x.class0()).append(' ').append(x.run()).append(' ').append(x.count(4));
        return all.toString();
    }

    private static void changesNothing(String call, int want, ToIntFunction<ClassifySort> made) {
        changesNothingOf(EdgeTest::plain, call, want, made);
        changesNothingOf(EdgeTest::sorted, call, want, made);
        changesNothingOf(EdgeTest::sortedWithOpen, call, want, made);
        changesNothingOf(EdgeTest::openNotSorted, call, want, made);
        changesNothingOf(EdgeTest::sortedWithEmpty, call, want, made);
    }

    private static void changesNothingOf(Supplier<ClassifySort> made, String what, int want, ToIntFunction<ClassifySort> call) {
        ClassifySort x = made.get();
        due(what, call.applyAsInt(x), want);
        spared(made, what, x);
    }

    private static void spared(Supplier<ClassifySort> made, String what, ClassifySort x) {
        String spared = seen(made.get());
        String now = seen(x);
        if (!now.equals(spared)) {
            fault(what + " changed something:\n  " + spared + "\n  " + now);
        }
    }

    private static void p01() {
        sentence("No classes, no axioms, no things");
        ClassifySort x = new ClassifySort();
        for (int what = 0; what <= 6; what++) {
            due("count(" + what + ")", x.count(what), 0);
        }
        due("no class", x.known(0, 0), UNKNOWN);
        due("no class for NOTHING", x.known(0, -1), UNKNOWN);
        due("no class to ask", x.ask(0, 0), UNKNOWN);
        due("no class to trace", x.trace(0, 0, 0), UNKNOWN);
        due("no class above", x.parent(0, 0), UNKNOWN);
        due("no class below", x.child(0, 0), UNKNOWN);
        due("no class the same", x.equal(0, 0), UNKNOWN);
        due("no class on a left", x.axiom(0, -1, -1), UNKNOWN);
        due("no axiom", x.remove(0), UNKNOWN);
        due("no thing", x.type(0, 0), UNKNOWN);
        due("no thing and no class", x.put(0, 0), UNKNOWN);
        due("not SORTED", x.empty(0), NOT_NOW);
        due("no OPEN pair", x.open(0), NONE);
        due("nothing to sort", x.run(), 0);
        due("but SORTED", x.count(5), 1);
        due("no EMPTY one", x.empty(0), NONE);
        due("still no class", x.parent(0, 0), UNKNOWN);
        due("none placed", x.count(6), 0);
        due("no OPEN pair now", x.fuel(0), 0);
        due("the first class", x.class0(), 0);
        due("the first thing", x.thing(), 0);
        due("the first axiom", x.axiom(0, -1, 0), 0);
    }

    private static void p01Apart() {
        sentence("ClassifySort() (each object is its own)");
        ClassifySort x = withClasses(2);
        ClassifySort y = withClasses(2);
        axioms(x, ax(0, 1));
        x.fuel(0);
        thingIn(x, 0);
        x.run();
        due("axioms", y.count(1), 0);
        due("things", y.count(2), 0);
        due("what is known", y.known(0, 1), NOT_KNOWN);
        due("SORTED", y.count(5), 0);
        axioms(y, ax(0, 1));
        due("fuel", y.ask(0, -1), NO);
    }

    private static void p02() {
        sentence("A class more: its number. FULL.");
        ClassifySort x = withClasses(20);
        x.run();
        due("FULL", x.class0(), FULL);
        due("still 20", x.count(0), 20);
        due("a refused class does not end SORTED", x.count(5), 1);
        due("nothing is asked anew", x.run(), 0);
        due("FULL again", x.class0(), FULL);
        due("there is no 20", x.parent(20, 0), UNKNOWN);
    }

    private static void p03() {
        sentence("A thing more, in no class: its number. FULL.");
        ClassifySort x = withClasses(2);
        axioms(x, ax(0, 1));
        for (int t = 0; t < 8; t++) {
            due("thing()", x.thing(), t);
        }
        x.run();
        due("FULL", x.thing(), FULL);
        due("still 8", x.count(2), 8);
        due("SORTED", x.count(5), 1);
        for (int t = 0; t < 8; t++) {
            due("in no class: " + t, x.type(t, 0), NONE);
        }
        due("put(3, 0)", x.put(3, 0), 1);
        due("FULL again", x.thing(), FULL);
        due("things keep their classes", x.type(3, 0), 0);
        due("and they alone", x.type(4, 0), NONE);
    }

    private static void p04Unknown() {
        sentence("UNKNOWN: a class that there is not");
        for (int n : WRONG_CLASSES) {
            changesNothing("axiom(" + n + ", -1, 0)", UNKNOWN, x -> x.axiom(n, -1, 0));
            changesNothing("axiom(" + n + ", 0, 1)", UNKNOWN, x -> x.axiom(n, 0, 1));
            changesNothing("axiom(0, " + n + ", 1)", UNKNOWN, x -> x.axiom(0, n, 1));
            changesNothing("axiom(0, -1, " + n + ")", UNKNOWN, x -> x.axiom(0, -1, n));
            changesNothing("axiom(0, 1, " + n + ")", UNKNOWN, x -> x.axiom(0, 1, n));
        }
        changesNothing("NOTHING alone on the left", UNKNOWN, x -> x.axiom(-1, -1, 0));
        changesNothing("NOTHING on the left", UNKNOWN, x -> x.axiom(-1, 0, 1));
    }

    private static void p04Range() {
        sentence("RANGE: other is left");
        for (int n = 0; n < 3; n++) {
            int c = n;
            changesNothing("axiom(" + c + ", " + c + ", 0)", RANGE, x -> x.axiom(c, c, 0));
            changesNothing("axiom(" + c + ", " + c + ", -1)", RANGE, x -> x.axiom(c, c, -1));
        }
        changesNothing("a class that there is not, twice", UNKNOWN, x -> x.axiom(3, 3, 0));
        changesNothing("and a right that there is not", UNKNOWN, x -> x.axiom(1, 1, 3));
        ClassifySort x = withClasses(2);
        due("right is left", x.axiom(0, -1, 0), 0);
        due("right is other", x.axiom(0, 1, 1), 1);
        due("right is left, with an other", x.axiom(0, 1, 0), 2);
        due("the other way round", x.axiom(1, 0, 0), 3);
        due("one that is there, again", x.axiom(1, 0, 0), 4);
    }

    private static void p04Full() {
        sentence("An axiom: .. FULL");
        ClassifySort x = withClasses(3);
        for (int n = 0; n < 40; n++) {
            due("axiom", x.axiom(0, 1, 2), n);
        }
        x.run();
        due("FULL", x.axiom(0, -1, 2), FULL);
        due("it is not told", x.known(0, 2), NO);
        due("nor does it fire", x.ask(0, 2), NO);
        due("nor is one forgotten", x.run(), 0);
        due("40 are there", x.count(1), 40);
        due("there is no 40", x.remove(40), UNKNOWN);
        due("UNKNOWN when FULL", x.axiom(3, -1, 2), UNKNOWN);
        due("RANGE when FULL", x.axiom(2, 2, 2), RANGE);
        due("SORTED still", x.count(5), 1);
    }

    private static void p04Nothing() {
        sentence("left, and other unless it is -1, are its left; right -1 is NOTHING");
        ClassifySort x = withClasses(3);
        axioms(x, ax(0, 1, -1), ax(2, -1, -1));
        due("two, NOTHING: not of one", x.known(0, -1), NOT_KNOWN);
        due("nor of the other", x.known(1, -1), NOT_KNOWN);
        due("one, NOTHING", x.known(2, -1), YES);
        due("class 0 is no -1", x.axiom(1, 0, 2), 2);
        due("so this is not told", x.known(1, 2), NOT_KNOWN);
    }

    private static void p05Unknown() {
        sentence("UNKNOWN: there is none, or it went");
        int[] none = {MIN, MIN + 32, -32, -2, -1, 2, 4, 5, 31, 32, 33, 39, 40, 41, 64, MAX};
        for (int n : none) {
            changesNothing("remove(" + n + ")", UNKNOWN, x -> x.remove(n));
        }
        due("the number that comes next", plain().remove(3), UNKNOWN);
        due("it came: (0,-) (1,0) (1,-)", sortedWithEmpty().remove(3), 3);
    }

    private static void p05Count() {
        sentence("of how many pairs a, b (b may be NOTHING) something was known that is not now");
        ClassifySort x = withClasses(3);
        axioms(x, ax(0, 1, 2), ax(0, 1, 2), ax(0, 0), ax(1, -1));
        due("nothing was known of it", x.remove(0), 0);
        due("a, a stays known", x.remove(2), 0);
        due("(1,0) (1,2) (1,-)", x.remove(3), 3);
        x.run();
        due("NO stays known", x.remove(1), 0);
        due("so none is asked", x.run(), 0);
        due("(0,-) is NO", x.known(0, -1), NO);

        ClassifySort y = withClasses(20);
        for (int c = 0; c < 20; c++) {
            axioms(y, ax(c, (c + 1) % 20));
        }
        axioms(y, ax(7, -1));
        // Behind it the ring is closed again, but no class is below NOTHING.
        due("(c,-) of all 20", y.remove(20), 20);
        due("the ring is a chain: (b,a) for each a less than b", y.remove(19), 19 * 20 / 2);
        due("0 below 19", y.known(0, 19), YES);
        due("19 below none", y.known(19, 0), NOT_KNOWN);
    }

    private static void p05All() {
        sentence("remove (all that can be known of 20 classes goes)");
        ClassifySort x = withClasses(20);
        for (int c = 0; c < 19; c++) {
            axioms(x, ax(c, 19));
        }
        axioms(x, ax(19, -1));
        due("(c,b) but for (c,c) and (c,19): 18 and NOTHING of 19 classes, 19 and NOTHING of 19", x.remove(19), 19 * 19 + 20);
    }

    private static void p06() {
        sentence("The FUEL is so much from now on: how many pairs were OPEN. RANGE.");
        int[] none = {MIN, MIN + 1, -32, -21, -2, -1, 21, 22, 31, 32, 40, 64, MAX - 1, MAX};
        for (int n : none) {
            changesNothing("fuel(" + n + ")", RANGE, x -> x.fuel(n));
        }
        ClassifySort x = withChain(20);
        axioms(x, ax(19, -1));
        for (int n = 0; n <= 20; n++) {
            due("fuel(" + n + ")", x.fuel(n), 0);
            if (n > 0) {
                due("so many fire with " + n, x.ask(20 - n, -1), YES);
            }
            if (n < 20) {
                due("and no more with " + n, x.ask(19 - n, -1), OPEN);
            }
        }
        due("refused", x.fuel(21), RANGE);
        due("as before", x.ask(0, -1), YES);
    }

    private static void p06Ring() {
        sentence("how many pairs were OPEN (of 20 classes)");
        ClassifySort x = ringOfTwenty();
        due("(c,-) of all", x.count(4), 20);
        due("20 were", x.fuel(20), 20);
        due("none are", x.count(4), 0);
        due("none was", x.fuel(20), 0);
        due("one answer, the others follow", x.run(), 1);
    }

    /** 20 classes that are all the same, with fuel 0: each is OPEN for NOTHING. */
    private static ClassifySort ringOfTwenty() {
        ClassifySort x = withClasses(20);
        for (int c = 0; c < 20; c++) {
            axioms(x, ax(c, (c + 1) % 20));
        }
        due("fuel(0)", x.fuel(0), 0);
        due("(c,-) are asked", x.run(), 20);
        return x;
    }

    private static void p07() {
        sentence("What is known of a, b (b -1: NOTHING): 1 YES, 0 NO, 2 OPEN, 3 nothing. UNKNOWN.");
        for (int n : WRONG_CLASSES) {
            changesNothing("known(" + n + ", 0)", UNKNOWN, x -> x.known(n, 0));
            changesNothing("known(" + n + ", -1)", UNKNOWN, x -> x.known(n, -1));
            changesNothing("known(0, " + n + ")", UNKNOWN, x -> x.known(0, n));
            changesNothing("known(" + n + ", " + n + ")", UNKNOWN, x -> x.known(n, n));
        }
        changesNothing("a is no class", UNKNOWN, x -> x.known(-1, 0));
        changesNothing("nor for NOTHING", UNKNOWN, x -> x.known(-1, -1));
        changesNothing("a look", YES, x -> x.known(0, 2));
        due("nothing", plain().known(2, -1), NOT_KNOWN);
        due("NO", sorted().known(2, -1), NO);
        due("OPEN", sortedWithOpen().known(0, -1), OPEN);
        due("YES", sortedWithEmpty().known(0, -1), YES);
    }

    private static void p08() {
        sentence("The reasoner's answer for a alone and b (-1: NOTHING): 1, 0, 2 as above; nothing is known by that. UNKNOWN.");
        for (int n : WRONG_CLASSES) {
            changesNothing("ask(" + n + ", 0)", UNKNOWN, x -> x.ask(n, 0));
            changesNothing("ask(" + n + ", -1)", UNKNOWN, x -> x.ask(n, -1));
            changesNothing("ask(0, " + n + ")", UNKNOWN, x -> x.ask(0, n));
            changesNothing("ask(" + n + ", " + n + ")", UNKNOWN, x -> x.ask(n, n));
        }
        changesNothing("a is no class", UNKNOWN, x -> x.ask(-1, 0));
        changesNothing("nor for NOTHING", UNKNOWN, x -> x.ask(-1, -1));
        changesNothing("nothing is known by NO", NO, x -> x.ask(2, -1));
        changesNothing("nor by YES", YES, x -> x.ask(0, 0));
        ClassifySort x = plain();
        due("NO", x.ask(1, 0), NO);
        due("is not known", x.known(1, 0), NOT_KNOWN);
        x.fuel(0);
        due("OPEN", x.ask(1, 0), OPEN);
        due("is not known", x.known(1, 0), NOT_KNOWN);
        due("no pair", x.count(4), 0);
        due("no question to sort", x.count(3), 0);
        due("a is alone: what is known is not used", x.ask(0, 2), OPEN);
        due("though it is", x.known(0, 2), YES);
        ClassifySort y = sortedWithOpen();
        y.fuel(20);
        due("answers are not remembered either", y.ask(1, 0), NO);
        due("so it is asked: (0,-) and (1,0); (1,-) follows", y.run(), 2);
    }

    private static void p09() {
        sentence("TO SORT: how many questions were asked");
        due("of no class", new ClassifySort().run(), 0);
        due("of one", withClasses(1).run(), 1);
        ClassifySort x = withClasses(20);
        due("of 20 that have nothing to do with each other", x.run(), 400);
        due("all is known", x.run(), 0);
        due("400 in all", x.count(3), 400);
        ClassifySort y = withClasses(20);
        for (int c = 0; c < 20; c++) {
            axioms(y, ax(c, -1));
        }
        due("of 20 that are told to be EMPTY", y.run(), 0);
        due("none is placed", y.count(6), 0);
        due("the last is EMPTY", y.empty(19), 19);
        due("there are no more", y.empty(20), NONE);
        due("an EMPTY one has none above: none is placed", y.parent(0, 0), NONE);
        due("all are the same", y.equal(7, 19), 19);
    }

    private static void p10() {
        sentence("The i-th class directly above one .. UNKNOWN; NOT_NOW: not SORTED; NONE: there are not so many");
        for (int n : WRONG_CLASSES) {
            changesNothing("parent(" + n + ", 0)", UNKNOWN, x -> x.parent(n, 0));
        }
        changesNothing("parent(-1, 0)", UNKNOWN, x -> x.parent(-1, 0));
        for (int i : WRONG_INDEXES) {
            due("not SORTED, " + i, plain().parent(0, i), NOT_NOW);
            changesNothingOf(EdgeTest::sorted, "parent(0, " + i + ")", NONE, x -> x.parent(0, i));
        }
        due("the one", sorted().parent(0, 0), 1);
        due("no second", sorted().parent(0, 1), NONE);
        due("none above", sorted().parent(2, 0), NONE);
        ClassifySort x = withClasses(20);
        for (int c = 0; c < 19; c++) {
            axioms(x, ax(19, c));
        }
        x.run();
        for (int i = 0; i < 19; i++) {
            due("by numbers, " + i, x.parent(19, i), i);
        }
        due("there are not so many", x.parent(19, 19), NONE);
    }

    private static void p10Same() {
        sentence("(one with a lesser placed class that is the same does not count)");
        ClassifySort x = withClasses(5);
        axioms(x, ax(0, 3), ax(3, 4), ax(4, 3), ax(0, 2), ax(1, 4));
        x.run();
        due("2", x.parent(0, 0), 2);
        due("3", x.parent(0, 1), 3);
        due("4 is 3", x.parent(0, 2), NONE);
        due("told 4, but 4 is 3", x.parent(1, 0), 3);
        due("no more", x.parent(1, 1), NONE);
        // 0 is EMPTY, not placed; 1 is the same as 0 by a later answer: a lesser class, but no placed one.
        ClassifySort y = sameAsEmpty();
        due("1 is the same as 0, which is not placed", y.parent(0, 0), 1);
        due("and the only one with nothing below", y.parent(0, 1), NONE);
        due("of another EMPTY one", y.parent(2, 0), 1);
    }

    private static ClassifySort sameAsEmpty() {
        ClassifySort y = withClasses(5);
        axioms(y, ax(0, -1), ax(1, 2), ax(2, 3), ax(2, 4), ax(3, 4, -1));
        y.fuel(3);
        y.run();
        due("EMPTY", y.empty(0), 0);
        due("EMPTY, too", y.empty(1), 2);
        due("1 is placed", y.empty(2), NONE);
        due("the same", y.known(1, 0), YES);
        return y;
    }

    private static void p10Empty() {
        sentence("for an EMPTY one: of those placed with nothing directly below");
        ClassifySort x = withClasses(7);
        axioms(x, ax(0, -1), ax(1, 2), ax(3, 4), ax(4, 3), ax(5, -1), ax(6, 6));
        x.run();
        for (int c = 0; c <= 5; c += 5) {
            due("1", x.parent(c, 0), 1);
            due("3, of 3 and 4", x.parent(c, 1), 3);
            due("6", x.parent(c, 2), 6);
            due("2 has 1 below", x.parent(c, 3), NONE);
            due("negative", x.parent(c, -1), NONE);
        }
        ClassifySort y = withClasses(1);
        axioms(y, ax(0, -1));
        y.run();
        due("none is placed", y.parent(0, 0), NONE);
    }

    private static void p11() {
        sentence("Directly below likewise");
        for (int n : WRONG_CLASSES) {
            changesNothing("child(" + n + ", 0)", UNKNOWN, x -> x.child(n, 0));
        }
        changesNothing("child(-1, 0)", UNKNOWN, x -> x.child(-1, 0));
        for (int i : WRONG_INDEXES) {
            due("not SORTED, " + i, plain().child(2, i), NOT_NOW);
            changesNothingOf(EdgeTest::sorted, "child(2, " + i + ")", NONE, x -> x.child(2, i));
        }
        due("the one", sorted().child(2, 0), 1);
        due("no second", sorted().child(2, 1), NONE);
        due("none below", sorted().child(0, 0), NONE);
        ClassifySort x = withClasses(20);
        for (int c = 1; c < 20; c++) {
            axioms(x, ax(c, 0));
        }
        x.run();
        for (int i = 0; i < 19; i++) {
            due("by numbers, " + i, x.child(0, i), i + 1);
        }
        due("there are not so many", x.child(0, 19), NONE);
    }

    private static void p11Empty() {
        sentence("(an EMPTY one: NONE; what is EMPTY is none of these)");
        ClassifySort x = withClasses(4);
        axioms(x, ax(0, -1), ax(1, 2), ax(3, -1));
        x.run();
        due("an EMPTY one", x.child(0, 0), NONE);
        due("an EMPTY one, negative", x.child(0, -1), NONE);
        due("another", x.child(3, 0), NONE);
        due("of 0, 3 and 1 only 1 is a child", x.child(2, 0), 1);
        due("no more", x.child(2, 1), NONE);
        due("nothing but EMPTY ones below", x.child(1, 0), NONE);
        // 1 is placed and below NOTHING, so an EMPTY one has what is the same below it, but nothing directly.
        ClassifySort y = sameAsEmpty();
        due("EMPTY, the same as a placed one", y.child(0, 0), NONE);
        due("placed, the same as EMPTY ones", y.child(1, 0), NONE);
        due("a child, though a lesser EMPTY one is the same", y.child(3, 0), 1);
        due("no EMPTY one beside it", y.child(3, 1), NONE);
    }

    private static void p12() {
        sentence("The i-th class, by numbers, that is the same: below it, and it below that, itself, too. UNKNOWN; NOT_NOW; NONE.");
        for (int n : WRONG_CLASSES) {
            changesNothing("equal(" + n + ", 0)", UNKNOWN, x -> x.equal(n, 0));
        }
        changesNothing("equal(-1, 0)", UNKNOWN, x -> x.equal(-1, 0));
        for (int i : WRONG_INDEXES) {
            due("not SORTED, " + i, plain().equal(0, i), NOT_NOW);
            changesNothingOf(EdgeTest::sorted, "equal(0, " + i + ")", NONE, x -> x.equal(0, i));
        }
        due("itself alone", sorted().equal(1, 0), 1);
        due("no other", sorted().equal(1, 1), NONE);
        ClassifySort x = ringOfTwenty();
        for (int i = 0; i < 20; i++) {
            due("of 20, " + i, x.equal(13, i), i);
        }
        due("NOTHING is no class", x.equal(13, 20), NONE);
        ClassifySort y = sameAsEmpty();
        due("placed and EMPTY ones", y.equal(1, 0), 0);
        due("itself", y.equal(1, 1), 1);
        due("another EMPTY one", y.equal(1, 2), 2);
        due("and not NOTHING", y.equal(1, 3), NONE);
    }

    private static void p13() {
        sentence("The i-th EMPTY class, by numbers. NOT_NOW; NONE.");
        for (int i : WRONG_INDEXES) {
            due("not SORTED, " + i, plain().empty(i), NOT_NOW);
            changesNothingOf(EdgeTest::sorted, "empty(" + i + ")", NONE, x -> x.empty(i));
            changesNothingOf(EdgeTest::sortedWithEmpty, "empty(" + i + ")", NONE, x -> x.empty(i));
        }
        due("none", sorted().empty(0), NONE);
        due("the first", sortedWithEmpty().empty(0), 0);
        due("the second", sortedWithEmpty().empty(1), 1);
        due("2 is not", sortedWithEmpty().empty(2), NONE);
        ClassifySort x = sortedWithEmpty();
        x.remove(3);
        due("not SORTED", x.empty(0), NOT_NOW);
        x.run();
        due("EMPTY no more", x.empty(0), NONE);
    }

    private static void p14() {
        sentence("The i-th OPEN pair a, b, by a, then b (NOTHING behind all classes): 32 a + b, 31 for NOTHING. NONE.");
        for (int i : WRONG_INDEXES) {
            due("none, " + i, plain().open(i), NONE);
            changesNothingOf(EdgeTest::sortedWithOpen, "open(" + i + ")", NONE, x -> x.open(i));
            changesNothingOf(EdgeTest::openNotSorted, "open(" + i + ")", NONE, x -> x.open(i));
        }
        due("not SORTED is as good: (1,0)", openNotSorted().open(0), 32);
        due("(1,-)", openNotSorted().open(1), 63);
        ClassifySort x = ringOfTwenty();
        for (int i = 0; i < 20; i++) {
            due("of 20, " + i, x.open(i), 32 * i + 31);
        }
        due("there are no more", x.open(20), NONE);
        ClassifySort y = withClasses(20);
        axioms(y, ax(19, 18));
        y.fuel(0);
        y.run();
        for (int i = 0; i < 18; i++) {
            due("a is 19, " + i, y.open(i), 32 * 19 + i);
        }
        due("NOTHING is the last", y.open(18), 32 * 19 + 31);
        due("there are no more", y.open(19), NONE);
    }

    private static void p14Most() {
        sentence("The i-th OPEN pair (as many as can be)");
        ClassifySort x = withClasses(20);
        for (int c = 0; c < 19; c++) {
            axioms(x, ax(c, 19));
        }
        x.fuel(0);
        due("19 classes each with 18 and NOTHING; (19,-), and (19,c) of 19", x.run(), 19 * 19 + 20);
        due("the former are OPEN", x.count(4), 361);
        due("the first", x.open(0), 1);
        due("the last class of the first", x.open(17), 18);
        due("NOTHING of the first", x.open(18), 31);
        due("the first of the second", x.open(19), 32);
        due("the last", x.open(360), 32 * 18 + 31);
        due("there are no more", x.open(361), NONE);
        due("all are forgotten", x.fuel(0), 361);
    }

    private static void p15() {
        sentence("A thing is told to be in a class: 1; 0 when it was so. UNKNOWN.");
        for (int n : WRONG_CLASSES) {
            changesNothing("put(0, " + n + ")", UNKNOWN, x -> x.put(0, n));
            changesNothing("put(" + n + ", 0)", UNKNOWN, x -> x.put(n, 0));
            changesNothing("put(" + n + ", " + n + ")", UNKNOWN, x -> x.put(n, n));
        }
        changesNothing("no class", UNKNOWN, x -> x.put(0, -1));
        changesNothing("no thing", UNKNOWN, x -> x.put(-1, 0));
        changesNothing("a thing that comes next", UNKNOWN, x -> x.put(2, 0));
        changesNothing("it was so", 0, x -> x.put(0, 0));
        ClassifySort x = sorted();
        due("it is not told what follows", x.type(0, 0), 0);
        due("so that is new", x.put(0, 1), 1);
        due("but only once", x.put(0, 1), 0);
        due("the other thing is not in it", x.put(1, 1), 1);
        due("things may be put when not SORTED", plain().put(1, 2), 1);
    }

    private static void p15Kept() {
        sentence("A thing is told to be in a class (whatever comes and goes)");
        ClassifySort x = sorted();
        x.remove(0);
        x.class0();
        x.fuel(0);
        x.run();
        due("it is in it still", x.put(0, 0), 0);
        due("and has it as a type", x.type(0, 0), 0);
        due("in the class that came", x.put(0, 3), 1);
        due("has it, too", x.type(0, 1), 3);
    }

    private static void p16() {
        sentence("UNKNOWN; NOT_NOW; CLASH: it says YES to NOTHING; NONE");
        for (int n : WRONG_CLASSES) {
            changesNothing("type(" + n + ", 0)", UNKNOWN, x -> x.type(n, 0));
        }
        changesNothing("type(2, 0)", UNKNOWN, x -> x.type(2, 0));
        changesNothing("type(-1, 0)", UNKNOWN, x -> x.type(-1, 0));
        for (int i : WRONG_INDEXES) {
            due("not SORTED, " + i, plain().type(0, i), NOT_NOW);
            changesNothingOf(EdgeTest::sorted, "type(0, " + i + ")", NONE, x -> x.type(0, i));
            changesNothingOf(EdgeTest::sorted, "type(1, " + i + ")", NONE, x -> x.type(1, i));
            changesNothingOf(EdgeTest::sortedWithEmpty, "type(0, " + i + ")", CLASH, x -> x.type(0, i));
        }
        ClassifySort x = withClasses(3);
        axioms(x, ax(0, 1, 2), ax(2, -1));
        int both = thingIn(x, 0, 1);
        due("NOT_NOW before CLASH", x.type(both, 0), NOT_NOW);
        x.run();
        due("none of its classes is EMPTY, but", x.type(both, 0), CLASH);
        due("fuel(1)", x.fuel(1), 0);
        x.run();
        due("OPEN is no CLASH", x.type(both, 0), 0);
        due("nor for the other", x.type(both, 1), 1);
        due("2 is EMPTY, not placed", x.type(both, 2), NONE);
        due("fuel(2)", x.fuel(2), 0);
        x.run();
        due("just enough", x.type(both, 0), CLASH);
        ClassifySort y = sortedWithEmpty();
        due("CLASH", y.type(0, 0), CLASH);
        due("fuel(0)", y.fuel(0), 0);
        y.run();
        due("its class is EMPTY still", y.empty(0), 0);
        due("but the reasoner does not say YES", y.type(0, 0), NONE);
    }

    private static void p16Lowest() {
        sentence("of those placed that a thing is in while it is in none directly below");
        ClassifySort x = withChain(4);
        int low = thingIn(x, 3, 1);
        int none = thingIn(x);
        x.run();
        due("1, which is below 2 and 3", x.type(low, 0), 1);
        due("no other", x.type(low, 1), NONE);
        due("in none", x.type(none, 0), NONE);
        due("fuel(0)", x.fuel(0), 0);
        x.run();
        due("without fuel it is in 1 and 3 alone", x.type(low, 0), 1);
        due("3 has 2 directly below, not 1", x.type(low, 1), 3);
        due("no more", x.type(low, 2), NONE);
    }

    private static void p16Same() {
        sentence("(one with a lesser placed class that is the same does not count)");
        ClassifySort x = withClasses(3);
        axioms(x, ax(0, 1), ax(1, 0));
        int thing = thingIn(x, 1);
        x.run();
        due("1 is 0", x.type(thing, 0), 0);
        due("0 alone counts", x.type(thing, 1), NONE);
        due("fuel(0)", x.fuel(0), 0);
        x.run();
        due("it is in 1, not in 0, and 1 does not count", x.type(thing, 0), NONE);
        ClassifySort y = sameAsEmpty();
        due("in 1, the same as the EMPTY 0", y.type(thingIn(y, 1), 0), 1);
    }

    private static void p16ByReasoner() {
        sentence("it is in those that the reasoner, with its classes as START, says YES to");
        ClassifySort x = withClasses(4);
        axioms(x, ax(0, 1, 2), ax(2, 3));
        int both = thingIn(x, 0, 1);
        x.run();
        due("0", x.type(both, 0), 0);
        due("1", x.type(both, 1), 1);
        due("2 by both", x.type(both, 2), 2);
        due("3 is above 2", x.type(both, 3), NONE);
        due("fuel(0)", x.fuel(0), 0);
        x.run();
        due("what is known does not help the reasoner", x.type(both, 2), NONE);
        due("nor is anything known by it", x.count(4), 0);
    }

    private static void p17() {
        sentence("UNKNOWN; NONE (also for other answers, and when none fired)");
        for (int n : WRONG_CLASSES) {
            changesNothing("trace(" + n + ", 0, 0)", UNKNOWN, x -> x.trace(n, 0, 0));
            changesNothing("trace(" + n + ", -1, 0)", UNKNOWN, x -> x.trace(n, -1, 0));
            changesNothing("trace(0, " + n + ", 0)", UNKNOWN, x -> x.trace(0, n, 0));
            changesNothing("trace(0, " + n + ", -1)", UNKNOWN, x -> x.trace(0, n, -1));
        }
        changesNothing("trace(-1, 0, 0)", UNKNOWN, x -> x.trace(-1, 0, 0));
        changesNothing("trace(-1, -1, 0)", UNKNOWN, x -> x.trace(-1, -1, 0));
        for (int i : WRONG_INDEXES) {
            changesNothing("trace(0, 2, " + i + ")", NONE, x -> x.trace(0, 2, i));
            changesNothing("trace(0, 0, " + i + ")", NONE, x -> x.trace(0, 0, i));
        }
        changesNothing("none fired", NONE, x -> x.trace(1, 1, 0));
        changesNothing("NO", NONE, x -> x.trace(2, 0, 0));
        due("YES", plain().trace(0, 2, 1), 1);
        due("there are no more", plain().trace(0, 2, 2), NONE);
        ClassifySort x = plain();
        due("fuel(1)", x.fuel(1), 0);
        due("OPEN", x.trace(0, 2, 0), NONE);
        due("though it is known", x.known(0, 2), YES);
        due("YES with the last fuel", x.trace(0, 1, 0), 0);
    }

    private static void p17Needs() {
        sentence("the last one that fired, and with one all that made a class of its left a fact");
        ClassifySort x = withClasses(20);
        for (int c = 0; c < 19; c++) {
            axioms(x, ax(0, c + 1));
        }
        axioms(x, ax(18, 19, -1), ax(1, 2, 3));
        due("of 19 that fired before the last needs two", x.trace(0, -1, 0), 17);
        due("the other", x.trace(0, -1, 1), 18);
        due("the last", x.trace(0, -1, 2), 19);
        due("no more", x.trace(0, -1, 3), NONE);
        due("the start is made by none", x.trace(0, 19, 0), 18);
        due("so that is all", x.trace(0, 19, 1), NONE);
        ClassifySort y = withChain(20);
        axioms(y, ax(19, -1));
        for (int i = 0; i < 20; i++) {
            due("all of 20, " + i, y.trace(0, -1, i), i);
        }
        due("there are no more", y.trace(0, -1, 20), NONE);
        ClassifySort z = withClasses(5);
        axioms(z, ax(3, 4, -1), ax(1, 4), ax(1, 3), ax(0, 1), ax(0, 2));
        due("what two need is there once", z.trace(0, -1, 0), 3);
        due("in the order of firing", z.trace(0, -1, 1), 1);
        due("then", z.trace(0, -1, 2), 2);
        due("the last has the least number", z.trace(0, -1, 3), 0);
        due("no more", z.trace(0, -1, 4), NONE);
        due("by NOTHING for any class", z.trace(0, 2, 3), 0);
    }

    private static void p18() {
        sentence("count .. RANGE");
        int[] none = {MIN, MIN + 1, MIN + 5, -32, -6, -2, -1, 7, 8, 31, 32, 37, 64, MAX - 1, MAX};
        for (int what : none) {
            changesNothing("count(" + what + ")", RANGE, x -> x.count(what));
        }
        due("none, of a new one", new ClassifySort().count(7), RANGE);
        sentence("0 classes, 1 axioms that are there, 2 things, 3 questions that were asked to sort in all, 4 OPEN pairs");
        ClassifySort x = sortedWithOpen();
        due("classes", x.count(0), 3);
        due("one of three went", x.count(1), 2);
        due("things", x.count(2), 2);
        due("(0,-) (1,-) (1,0) (2,-) (2,1)", x.count(3), 5);
        due("(0,-) (1,0) (1,-)", x.count(4), 3);
        x.fuel(0);
        due("questions stay when answers go", x.count(3), 5);
        x.run();
        due("in all", x.count(3), 8);
        sentence("5 whether all is SORTED (1, 0), 6 placed classes (0 when not SORTED)");
        due("SORTED", x.count(5), 1);
        due("placed", x.count(6), 3);
        x.fuel(0);
        due("not SORTED", x.count(5), 0);
        due("placed, not SORTED", x.count(6), 0);
        due("an EMPTY one is not placed", sortedWithEmpty().count(6), 1);
        due("OPEN pairs when not SORTED: (1,0) (1,-)", openNotSorted().count(4), 2);
    }

    /** What must be SORTED is NOT_NOW behind each of the changes, and not before. */
    private static void notNow() {
        sentence("NOT_NOW: not SORTED");
        notNowBehind("class0()", x -> x.class0());
        notNowBehind("axiom(0, 1, 2)", x -> x.axiom(0, 1, 2));
        notNowBehind("remove(0)", x -> x.remove(0));
        notNowBehind("fuel(20)", x -> x.fuel(20));
    }

    private static void notNowBehind(String change, ToIntFunction<ClassifySort> call) {
        ClassifySort x = sorted();
        due("parent before " + change, x.parent(1, 0), 2);
        due("child before " + change, x.child(1, 0), 0);
        due("equal before " + change, x.equal(1, 0), 1);
        due("empty before " + change, x.empty(0), NONE);
        due("type before " + change, x.type(0, 0), 0);
        call.applyAsInt(x);
        due("parent behind " + change, x.parent(1, 0), NOT_NOW);
        due("child behind " + change, x.child(1, 0), NOT_NOW);
        due("equal behind " + change, x.equal(1, 0), NOT_NOW);
        due("empty behind " + change, x.empty(0), NOT_NOW);
        due("type behind " + change, x.type(0, 0), NOT_NOW);
        due("UNKNOWN before NOT_NOW: parent", x.parent(4, 0), UNKNOWN);
        due("UNKNOWN before NOT_NOW: child", x.child(4, 0), UNKNOWN);
        due("UNKNOWN before NOT_NOW: equal", x.equal(4, 0), UNKNOWN);
        due("UNKNOWN before NOT_NOW: type", x.type(4, 0), UNKNOWN);
    }

    /** Every call with every pair of strange numbers, in every state: an answer, and nothing is changed by a look. */
    private static void anyNumbers() {
        sentence("No call may ever throw (LANGUAGE.md, 7)");
        int[] strange = {MIN, -33, -32, -1, 0, 1, 2, 3, 20, 31, 32, 33, 40, MAX};
        for (int a : strange) {
            for (int b : strange) {
                looks(EdgeTest::sorted, a, b);
                looks(EdgeTest::sortedWithOpen, a, b);
                looks(EdgeTest::sortedWithEmpty, a, b);
                looks(EdgeTest::openNotSorted, a, b);
            }
        }
    }

    private static void looks(Supplier<ClassifySort> made, int a, int b) {
        ClassifySort x = made.get();
        x.known(a, b);
        x.ask(a, b);
        x.parent(a, b);
        x.child(a, b);
        x.equal(a, b);
        x.type(a, b);
        x.empty(b);
        x.open(b);
        x.count(b);
        x.trace(a, b, 0);
        x.trace(0, a, b);
        x.trace(a, 2, b);
        spared(made, "looks with " + a + ", " + b, x);
    }

    public static void main(String[] args) {
        p01();
        p01Apart();
        p02();
        p03();
        p04Unknown();
        p04Range();
        p04Full();
        p04Nothing();
        p05Unknown();
        p05Count();
        p05All();
        p06();
        p06Ring();
        p07();
        p08();
        p09();
        p10();
        p10Same();
        p10Empty();
        p11();
        p11Empty();
        p12();
        p13();
        p14();
        p14Most();
        p15();
        p15Kept();
        p16();
        p16Lowest();
        p16Same();
        p16ByReasoner();
        p17();
        p17Needs();
        p18();
        notNow();
        anyNumbers();
        end("all edges hold");
    }
}
