/** For each promise of the document: ordinary calls, its edges, and wrong arguments. All that is due is worked out by hand. */
public final class PromiseTest extends Checks {
    private static void p01NewObject() {
        ClassifySort x = new ClassifySort();
        for (int what = 0; what <= 6; what++) {
            due("1: count(" + what + ")", x.count(what), 0);
        }
        due("1: known", x.known(0, 0), UNKNOWN);
        due("1: known nothing", x.known(-1, -1), UNKNOWN);
        due("1: ask", x.ask(0, -1), UNKNOWN);
        due("1: remove", x.remove(0), UNKNOWN);
        due("1: parent", x.parent(0, 0), UNKNOWN);
        due("1: empty", x.empty(0), NOT_NOW);
        due("1: open", x.open(0), NONE);
        due("1: type", x.type(0, 0), UNKNOWN);
        due("1: put", x.put(0, 0), UNKNOWN);
        due("1: axiom", x.axiom(0, -1, -1), UNKNOWN);
        ClassifySort chain = withChain(20);
        axioms(chain, ax(19, -1));
        due("1: fuel 20 at first", chain.ask(0, -1), 1);
        chain.fuel(19);
        due("1: and no less", chain.ask(0, -1), 2);
        ClassifySort y = withClasses(3);
        due("1: objects are apart", x.count(0), 0);
        due("1: the other", y.count(0), 3);
    }

    private static void p02Class() {
        ClassifySort x = withClasses(19);
        x.run();
        due("2: sorted", x.count(5), 1);
        due("2: the last", x.class0(), 19);
        due("2: a class ends SORTED", x.count(5), 0);
        due("2: known of itself", x.known(19, 19), 1);
        due("2: nothing known", x.known(19, 0), 3);
        due("2: nothing known of NOTHING", x.known(19, -1), 3);
        x.run();
        due("2: full", x.class0(), FULL);
        due("2: full again", x.class0(), FULL);
        due("2: a refused class does not end SORTED", x.count(5), 1);
        due("2: count", x.count(0), 20);
        ClassifySort y = withClasses(1);
        axioms(y, ax(0, -1));
        y.class0();
        due("2: what is below NOTHING is below a new class", y.known(0, 1), 1);
        due("2: not the other way", y.known(1, 0), 3);
    }

    private static void p03Thing() {
        ClassifySort x = withClasses(1);
        x.run();
        for (int t = 0; t < 8; t++) {
            due("3: thing()", x.thing(), t);
        }
        due("3: full", x.thing(), FULL);
        due("3: things do not end SORTED", x.count(5), 1);
        due("3: in no class", x.type(7, 0), NONE);
        due("3: count", x.count(2), 8);
    }

    private static void p04AxiomErrors() {
        ClassifySort x = withClasses(3);
        x.run();
        due("4: left", x.axiom(3, -1, 0), UNKNOWN);
        due("4: left -1", x.axiom(-1, -1, 0), UNKNOWN);
        due("4: left least", x.axiom(MIN, 0, 0), UNKNOWN);
        due("4: other", x.axiom(0, 3, 1), UNKNOWN);
        due("4: other -2", x.axiom(0, -2, 1), UNKNOWN);
        due("4: right", x.axiom(0, 1, 3), UNKNOWN);
        due("4: right -2", x.axiom(0, 1, -2), UNKNOWN);
        due("4: right most", x.axiom(0, 1, MAX), UNKNOWN);
        due("4: other is left", x.axiom(1, 1, 0), RANGE);
        due("4: UNKNOWN before RANGE", x.axiom(1, 1, 3), UNKNOWN);
        due("4: UNKNOWN before RANGE, left", x.axiom(5, 5, 0), UNKNOWN);
        due("4: refused ones do not end SORTED", x.count(5), 1);
        due("4: refused ones are none", x.count(1), 0);
        due("4: nor take numbers", x.axiom(0, -1, 0), 0);
        due("4: an axiom ends SORTED", x.count(5), 0);
        for (int n = 1; n < 40; n++) {
            due("4: number", x.axiom(0, 1, 2), n);
        }
        x.run();
        due("4: full", x.axiom(0, 1, 2), FULL);
        due("4: UNKNOWN before FULL", x.axiom(0, 3, 2), UNKNOWN);
        due("4: RANGE before FULL", x.axiom(0, 0, 2), RANGE);
        due("4: FULL does not end SORTED", x.count(5), 1);
        x.remove(0);
        due("4: one that went makes no room", x.axiom(0, 1, 2), FULL);
    }

    private static void p04AxiomForgets() {
        ClassifySort x = withClasses(3);
        due("4: all are asked", x.run(), 9);
        due("4: two on the left", x.axiom(0, 1, 2), 0);
        due("4: left is touched", x.known(0, 2), 3);
        due("4: and any other", x.known(0, 1), 3);
        due("4: and NOTHING", x.known(0, -1), 3);
        due("4: other is touched", x.known(1, -1), 3);
        due("4: right is not", x.known(2, 0), 0);
        due("4: right is not, NOTHING", x.known(2, -1), 0);
        due("4: only what was forgotten is asked", x.run(), 6);
        due("4: a module by the right of an axiom", x.axiom(2, -1, 0), 1);
        due("4: touched by a module", x.known(0, 1), 3);
        due("4: NO is closed", x.known(1, 2), 3);
        due("4: told", x.known(2, 0), 1);

        ClassifySort y = withClasses(4);
        axioms(y, ax(0, 1));
        y.run();
        due("4: a far axiom", y.axiom(2, -1, 3), 1);
        due("4: touches no other", y.known(0, 2), 0);
        due("4: nor NOTHING of it", y.known(0, -1), 0);
        due("4: nor its right", y.known(3, 2), 0);
        due("4: told YES", y.known(2, 3), 1);
        due("4: told NOTHING", y.axiom(1, -1, -1), 2);
        due("4: YES for NOTHING", y.known(1, -1), 1);
        due("4: closed below", y.known(0, -1), 1);
        due("4: NOTHING is below each", y.known(0, 3), 1);
        due("4: still not the other way", y.known(3, 0), 0);
    }

    private static void p05Remove() {
        ClassifySort x = withClasses(4);
        axioms(x, ax(0, 1), ax(1, 2), ax(3, 2));
        x.run();
        due("5: closed", x.known(0, 2), 1);
        due("5: (0,2) and (1,2) go", x.remove(1), 2);
        due("5: ends SORTED", x.count(5), 0);
        due("5: went", x.known(1, 2), 3);
        due("5: went, too", x.known(0, 2), 3);
        due("5: YES by itself stays", x.known(0, 1), 1);
        due("5: not touched", x.known(3, 2), 1);
        due("5: NO stays", x.known(2, 0), 0);
        due("5: count", x.count(1), 2);
        x.run();
        due("5: again", x.remove(1), UNKNOWN);
        due("5: none", x.remove(3), UNKNOWN);
        due("5: negative", x.remove(-1), UNKNOWN);
        due("5: least", x.remove(MIN), UNKNOWN);
        due("5: most", x.remove(MAX), UNKNOWN);
        due("5: refused ones do not end SORTED", x.count(5), 1);
        due("5: the number stays its own", x.axiom(0, -1, 1), 3);
        due("5: told twice, stays by itself", x.remove(0), 0);
        due("5: so", x.known(0, 1), 1);
        due("5: the other, too", x.remove(3), 1);
        due("5: gone", x.known(0, 1), 3);
        due("5: it fires no more", x.ask(0, 1), 0);

        ClassifySort y = withClasses(3);
        axioms(y, ax(0, 1), ax(1, 2));
        y.fuel(0);
        y.run();
        due("5: OPEN", y.count(4), 3);
        due("5: touched OPEN go: (0,-), (1,-), (1,0), and YES (0,2), (1,2)", y.remove(1), 5);
        due("5: no OPEN now", y.count(4), 0);
        due("5: NO stays", y.known(2, 1), 0);
    }

    private static void p06Fuel() {
        ClassifySort x = withClasses(3);
        axioms(x, ax(0, 1), ax(1, 2));
        due("6: none OPEN", x.fuel(0), 0);
        x.run();
        due("6: below the range", x.fuel(-1), RANGE);
        due("6: above the range", x.fuel(21), RANGE);
        due("6: refused does not end SORTED", x.count(5), 1);
        due("6: nor forget", x.count(4), 3);
        due("6: three were OPEN", x.fuel(0), 3);
        due("6: told anew ends SORTED", x.count(5), 0);
        due("6: forgotten", x.known(1, 0), 3);
        due("6: YES stays", x.known(0, 2), 1);
        due("6: NO stays", x.known(2, 0), 0);
        due("6: asked again", x.run(), 3);
        due("6: the most", x.fuel(20), 3);
        due("6: answers now: (0,-), (1,0); (1,-) follows", x.run(), 2);
        due("6: none OPEN", x.fuel(1), 0);
        due("6: one may fire", x.ask(0, 1), 1);
        due("6: a second could", x.ask(0, 2), 2);
        due("6: none could", x.ask(1, 0), 0);
    }

    private static void p07Known() {
        ClassifySort x = withClasses(4);
        axioms(x, ax(0, 1), ax(1, 2));
        due("7: itself", x.known(3, 3), 1);
        due("7: told", x.known(0, 1), 1);
        due("7: closed", x.known(0, 2), 1);
        due("7: nothing", x.known(2, 0), 3);
        due("7: nothing of NOTHING", x.known(0, -1), 3);
        due("7: asked", x.run(), 6);
        due("7: NO", x.known(3, 2), 0);
        due("7: NO, closed below", x.known(3, 0), 0);
        due("7: NO, closed above", x.known(2, 3), 0);
        due("7: NO for NOTHING", x.known(2, -1), 0);
        x.fuel(0);
        axioms(x, ax(3, 0, 1));
        due("7: a is none", x.known(4, 0), UNKNOWN);
        due("7: b is none", x.known(0, 4), UNKNOWN);
        due("7: a is NOTHING", x.known(-1, 0), UNKNOWN);
        due("7: b -2", x.known(0, -2), UNKNOWN);
        due("7: b most", x.known(0, MAX), UNKNOWN);
        due("7: a least", x.known(MIN, -1), UNKNOWN);
        due("7: forgotten", x.known(3, 0), 3);
        axioms(x, ax(3, 2));
        x.run();
        due("7: OPEN", x.known(0, -1), 2);
        axioms(x, ax(2, -1));
        due("7: OPEN no more when it follows", x.known(3, -1), 1);
        due("7: nor there", x.known(0, -1), 1);
    }

    private static void p08Ask() {
        ClassifySort x = withClasses(5);
        axioms(x, ax(0, 1), ax(0, 2), ax(1, 2, 3), ax(3, -1));
        due("8: itself", x.ask(4, 4), 1);
        due("8: two on the left", x.ask(0, 3), 1);
        due("8: one of two is not enough", x.ask(1, 3), 0);
        due("8: NOTHING", x.ask(0, -1), 1);
        due("8: NOTHING answers all", x.ask(0, 4), 1);
        due("8: NO", x.ask(4, 0), 0);
        due("8: NO for NOTHING", x.ask(1, -1), 0);
        due("8: nothing is known by that", x.known(0, 3), 3);
        due("8: nor of NO", x.known(4, 0), 3);
        due("8: no question to sort", x.count(3), 0);
        due("8: a", x.ask(5, 0), UNKNOWN);
        due("8: a is NOTHING", x.ask(-1, 0), UNKNOWN);
        due("8: b", x.ask(0, 5), UNKNOWN);
        due("8: b -2", x.ask(0, -2), UNKNOWN);
        x.fuel(3);
        due("8: as many as the fuel", x.ask(0, 3), 1);
        due("8: one more", x.ask(0, -1), 2);
        due("8: for a class, too", x.ask(0, 4), 2);
        x.fuel(0);
        due("8: itself without fuel", x.ask(0, 0), 1);
        due("8: none could fire without fuel", x.ask(1, 0), 0);
        x.fuel(2);
        due("8: the least fires first", x.ask(0, 2), 1);
        ClassifySort y = withClasses(3);
        axioms(y, ax(0, 1), ax(0, 1), ax(0, 0), ax(0, 2));
        y.fuel(2);
        due("8: one whose right is a fact does not fire", y.ask(0, 2), 1);
    }

    private static void p09Run() {
        due("9: no classes", new ClassifySort().run(), 0);
        ClassifySort x = withClasses(4);
        axioms(x, ax(0, 1), ax(1, 2));
        due("9: (0,-) (1,0) (2,1) (3,-) (3,2) (0,3)", x.run(), 6);
        due("9: all is known", x.run(), 0);
        due("9: still SORTED", x.count(5), 1);
        due("9: in all", x.count(3), 6);
        due("9: a class more", x.class0(), 4);
        due("9: (4,-) (4,2) (4,3) (0,4) (3,4)", x.run(), 5);
        due("9: in all", x.count(3), 11);

        ClassifySort y = withClasses(3);
        axioms(y, ax(0, 1), ax(1, 2));
        y.fuel(0);
        due("9: (0,-) (1,-) (1,0) (2,-) (2,1)", y.run(), 5);
        due("9: OPEN is known", y.run(), 0);
        due("9: OPEN is placed", y.count(6), 3);

        ClassifySort z = withClasses(5);
        axioms(z, ax(1, 0), ax(2, 0), ax(3, 1), ax(3, 2));
        due("9: (0,-), (1,-) (0,1), (2,-) (2,1) (1,2), (3,-), (4,-) (4,0) (3,4)", z.run(), 10);
    }

    private static void p09Placed() {
        ClassifySort x = withClasses(2);
        axioms(x, ax(0, 1), ax(1, 0), ax(0, 1, -1));
        x.fuel(1);
        due("9: (0,-) (1,-) are OPEN", x.run(), 2);
        due("9: all placed", x.count(6), 2);
        // With fuel 3 (0,-) is OPEN and (1,-) is YES: 0 is below NOTHING by that, but it was placed before.
        ClassifySort y = withClasses(4);
        axioms(y, ax(0, 1), ax(1, 2), ax(1, 3), ax(2, 3, -1));
        y.fuel(3);
        y.run();
        due("9: later answers", y.known(0, -1), 1);
        due("9: stays placed", y.count(6), 3);
        due("9: is not EMPTY", y.empty(0), 1);
        due("9: one is", y.empty(1), NONE);
        due("10: for an EMPTY one: placed with nothing below, though the same", y.parent(1, 0), 0);
        due("10: no more", y.parent(1, 1), NONE);
        due("9: to sort anew", y.run(), 0);
        due("9: is EMPTY now", y.empty(0), 0);
        due("9: not placed now", y.count(6), 2);
    }

    /** A placed class that is the same as a lesser EMPTY one, which is not placed. */
    private static void p10SameAsEmpty() {
        ClassifySort x = withClasses(5);
        axioms(x, ax(0, -1), ax(1, 2), ax(2, 3), ax(2, 4), ax(3, 4, -1));
        x.fuel(3);
        x.thing();
        x.put(0, 1);
        x.run();
        due("10: EMPTY by telling", x.empty(0), 0);
        due("10: EMPTY by an answer", x.empty(1), 2);
        due("10: three are placed", x.count(6), 3);
        due("12: the same", x.equal(1, 0), 0);
        due("10: of a lesser EMPTY one", x.parent(0, 0), 1);
        due("10: of a greater EMPTY one", x.parent(2, 0), 1);
        due("11: a child, though the same as EMPTY ones", x.child(3, 0), 1);
        due("11: no more", x.child(3, 1), NONE);
        due("16: a type, though the same as EMPTY ones", x.type(0, 0), 1);
        due("16: no more", x.type(0, 1), NONE);
    }

    private static ClassifySort withSame() {
        ClassifySort x = withClasses(7);
        axioms(x, ax(0, 1), ax(1, 0), ax(2, 0), ax(3, -1), ax(4, 5), ax(5, 4), ax(6, 2));
        return x;
    }

    private static void p10Parent() {
        ClassifySort x = withSame();
        due("10: not SORTED", x.parent(0, 0), NOT_NOW);
        due("10: UNKNOWN before NOT_NOW", x.parent(7, 0), UNKNOWN);
        x.run();
        due("10: the least of the same", x.parent(2, 0), 0);
        due("10: the other does not count", x.parent(2, 1), NONE);
        due("10: only directly", x.parent(6, 0), 2);
        due("10: no more", x.parent(6, 1), NONE);
        due("10: on top", x.parent(0, 0), NONE);
        due("10: on top, the same", x.parent(1, 0), NONE);
        due("10: EMPTY: first with nothing below", x.parent(3, 0), 4);
        due("10: EMPTY: second, 5 is 4", x.parent(3, 1), 6);
        due("10: EMPTY: no more", x.parent(3, 2), NONE);
        due("10: negative i", x.parent(2, -1), NONE);
        due("10: least i", x.parent(2, MIN), NONE);
        due("10: most i", x.parent(2, MAX), NONE);
        due("10: negative class", x.parent(-1, 0), UNKNOWN);
        due("10: least class", x.parent(MIN, 0), UNKNOWN);
        ClassifySort y = withClasses(4);
        axioms(y, ax(3, 2), ax(3, 1), ax(2, 0), ax(1, 0), ax(3, 0));
        y.run();
        due("10: by numbers", y.parent(3, 0), 1);
        due("10: by numbers, second", y.parent(3, 1), 2);
        due("10: told but not directly", y.parent(3, 2), NONE);
    }

    private static void p11Child() {
        ClassifySort x = withSame();
        due("11: not SORTED", x.child(0, 0), NOT_NOW);
        due("11: UNKNOWN before NOT_NOW", x.child(7, 0), UNKNOWN);
        x.run();
        due("11: directly", x.child(0, 0), 2);
        due("11: only directly", x.child(0, 1), NONE);
        due("11: of the same", x.child(1, 0), 2);
        due("11: what is EMPTY is none", x.child(6, 0), NONE);
        due("11: an EMPTY one", x.child(3, 0), NONE);
        due("11: negative i", x.child(0, -1), NONE);
        due("11: negative class", x.child(-1, 0), UNKNOWN);
        ClassifySort y = withClasses(4);
        axioms(y, ax(2, 3), ax(1, 3), ax(1, 2), ax(2, 1), ax(0, 3));
        y.run();
        due("11: by numbers", y.child(3, 0), 0);
        due("11: the least of the same", y.child(3, 1), 1);
        due("11: the other does not count", y.child(3, 2), NONE);
    }

    private static void p12Equal() {
        ClassifySort x = withSame();
        due("12: not SORTED", x.equal(0, 0), NOT_NOW);
        due("12: UNKNOWN before NOT_NOW", x.equal(-1, 0), UNKNOWN);
        x.class0();
        axioms(x, ax(7, 3));
        x.run();
        due("12: the other", x.equal(1, 0), 0);
        due("12: itself, too", x.equal(1, 1), 1);
        due("12: no more", x.equal(1, 2), NONE);
        due("12: alone", x.equal(2, 0), 2);
        due("12: alone, no more", x.equal(2, 1), NONE);
        due("12: EMPTY ones are the same", x.equal(3, 1), 7);
        due("12: all of them", x.equal(7, 0), 3);
        due("12: NOTHING is none", x.equal(3, 2), NONE);
        due("12: negative i", x.equal(0, -1), NONE);
        due("12: class", x.equal(8, 0), UNKNOWN);
    }

    private static void p13Empty() {
        ClassifySort x = withClasses(4);
        axioms(x, ax(1, 2), ax(1, 3), ax(2, 3, -1), ax(0, -1));
        due("13: not SORTED", x.empty(0), NOT_NOW);
        due("13: not SORTED before NONE", x.empty(-1), NOT_NOW);
        x.run();
        due("13: told", x.empty(0), 0);
        due("13: reasoned", x.empty(1), 1);
        due("13: no more", x.empty(2), NONE);
        due("13: negative", x.empty(-1), NONE);
        due("13: least", x.empty(MIN), NONE);
        x.fuel(0);
        due("13: not SORTED now", x.empty(0), NOT_NOW);
    }

    private static void p14Open() {
        ClassifySort x = withClasses(3);
        axioms(x, ax(0, 1), ax(1, 2));
        x.fuel(0);
        due("14: none yet", x.open(0), NONE);
        x.run();
        due("14: (0,-)", x.open(0), 31);
        due("14: (1,0)", x.open(1), 32);
        due("14: (1,-), NOTHING behind all", x.open(2), 63);
        due("14: no more", x.open(3), NONE);
        due("14: negative", x.open(-1), NONE);
        due("14: least", x.open(MIN), NONE);
        due("14: most", x.open(MAX), NONE);
        x.class0();
        due("14: also when not SORTED", x.open(1), 32);
        x.axiom(1, -1, 0);
        due("14: touched ones are forgotten", x.open(0), NONE);

        // (4,3) is NO since the first run; with 1 below 3 told, (4,1) is NO by that, though 4 is not touched.
        ClassifySort y = withClasses(5);
        axioms(y, ax(4, 1), ax(4, 2));
        y.run();
        y.fuel(0);
        due("14: (4,1) goes", y.remove(0), 1);
        due("14: (4,1) is asked", y.run(), 1);
        due("14: (4,1) is OPEN", y.open(0), 32 * 4 + 1);
        axioms(y, ax(1, 3));
        due("14: NO by what was told", y.known(4, 1), 0);
        due("14: OPEN no more", y.open(0), NONE);
        due("14: none is", y.count(4), 0);
    }

    private static void p15Put() {
        ClassifySort x = withClasses(2);
        x.thing();
        x.run();
        due("15: told", x.put(0, 1), 1);
        due("15: it was so", x.put(0, 1), 0);
        due("15: another class", x.put(0, 0), 1);
        due("15: both are held", x.type(0, 0), 0);
        due("15: both are held, second", x.type(0, 1), 1);
        due("15: SORTED stays", x.count(5), 1);
        due("15: thing", x.put(1, 0), UNKNOWN);
        due("15: negative thing", x.put(-1, 0), UNKNOWN);
        due("15: most thing", x.put(MAX, 0), UNKNOWN);
        due("15: class", x.put(0, 2), UNKNOWN);
        due("15: NOTHING is no class", x.put(0, -1), UNKNOWN);
        x.thing();
        due("15: of another thing", x.put(1, 1), 1);
    }

    private static void p16Type() {
        ClassifySort x = withClasses(6);
        axioms(x, ax(0, 1), ax(2, 3), ax(3, 2), ax(1, 3, 4), ax(4, 1), ax(0, 5, -1));
        x.thing();
        x.thing();
        due("16: not SORTED", x.type(0, 0), NOT_NOW);
        due("16: UNKNOWN before NOT_NOW", x.type(2, 0), UNKNOWN);
        x.run();
        due("16: in no class", x.type(0, 0), NONE);
        x.put(0, 0);
        due("16: not in the one above", x.type(0, 0), 0);
        due("16: no more", x.type(0, 1), NONE);
        x.put(0, 3);
        due("16: both", x.type(0, 0), 0);
        due("16: the least of the same", x.type(0, 1), 2);
        due("16: by two together, the other of the same does not count", x.type(0, 2), 4);
        due("16: no more", x.type(0, 3), NONE);
        due("16: negative i", x.type(0, -1), NONE);
        x.put(0, 5);
        due("16: clash", x.type(0, 0), CLASH);
        due("16: CLASH before NONE", x.type(0, -1), CLASH);
        due("16: the other thing", x.type(1, 0), NONE);
        due("16: negative thing", x.type(-1, 0), UNKNOWN);

        ClassifySort y = withClasses(3);
        axioms(y, ax(0, 2), ax(0, 1), ax(1, 2));
        y.thing();
        y.put(0, 0);
        y.fuel(1);
        y.run();
        due("16: in 0", y.type(0, 0), 0);
        due("16: in 2, and not known in 1 directly below", y.type(0, 1), 2);
        due("16: no more", y.type(0, 2), NONE);
        y.fuel(20);
        y.run();
        due("16: in all three", y.type(0, 0), 0);
        due("16: one counts", y.type(0, 1), NONE);
    }

    private static void p16TypeOfEmpty() {
        ClassifySort x = withClasses(3);
        axioms(x, ax(0, 1), ax(1, 2), ax(2, -1));
        x.thing();
        x.put(0, 0);
        x.fuel(1);
        x.run();
        due("16: EMPTY classes are not placed", x.type(0, 0), NONE);
        x.fuel(3);
        x.run();
        due("16: clash with fuel enough", x.type(0, 0), CLASH);
    }

    private static void p17Trace() {
        ClassifySort x = withClasses(6);
        axioms(x, ax(0, 1), ax(0, 2), ax(2, 3), ax(3, 2, 4), ax(5, -1));
        due("17: axiom 0 fired, but is not needed", x.trace(0, 4, 0), 1);
        due("17: second", x.trace(0, 4, 1), 2);
        due("17: third", x.trace(0, 4, 2), 3);
        due("17: no more", x.trace(0, 4, 3), NONE);
        due("17: itself needs none", x.trace(0, 0, 0), NONE);
        due("17: NO", x.trace(1, 0, 0), NONE);
        due("17: NOTHING", x.trace(5, -1, 0), 4);
        due("17: by NOTHING", x.trace(5, 0, 0), 4);
        due("17: NO for NOTHING", x.trace(0, -1, 0), NONE);
        due("17: negative i", x.trace(0, 4, -1), NONE);
        due("17: least i", x.trace(0, 4, MIN), NONE);
        due("17: most i", x.trace(0, 4, MAX), NONE);
        due("17: a", x.trace(6, 0, 0), UNKNOWN);
        due("17: a is NOTHING", x.trace(-1, 0, 0), UNKNOWN);
        due("17: b", x.trace(0, 6, 0), UNKNOWN);
        due("17: b -2", x.trace(0, -2, 0), UNKNOWN);
        x.fuel(3);
        due("17: OPEN", x.trace(0, 4, 0), NONE);
        due("17: one that fuel reaches", x.trace(0, 3, 1), 2);
        due("17: asks no question", x.count(3), 0);
        ClassifySort y = withClasses(4);
        axioms(y, ax(1, 2), ax(0, 1), ax(1, 2, 3));
        due("17: in the order of firing", y.trace(0, 3, 0), 1);
        due("17: not by numbers", y.trace(0, 3, 1), 0);
        due("17: the last one", y.trace(0, 3, 2), 2);
    }

    private static void p18Count() {
        ClassifySort x = withClasses(3);
        axioms(x, ax(0, 1), ax(1, 2), ax(0, 2));
        x.thing();
        x.remove(2);
        x.fuel(0);
        due("18: classes", x.count(0), 3);
        due("18: axioms that are there", x.count(1), 2);
        due("18: things", x.count(2), 1);
        due("18: not SORTED", x.count(5), 0);
        due("18: placed, not SORTED", x.count(6), 0);
        x.run();
        due("18: questions", x.count(3), 5);
        due("18: OPEN", x.count(4), 3);
        due("18: SORTED", x.count(5), 1);
        due("18: placed", x.count(6), 3);
        x.class0();
        due("18: not SORTED again", x.count(5), 0);
        due("18: placed, not SORTED again", x.count(6), 0);
        due("18: OPEN, not SORTED", x.count(4), 3);
        due("18: below the range", x.count(-1), RANGE);
        due("18: above the range", x.count(7), RANGE);
        due("18: least", x.count(MIN), RANGE);
        due("18: most", x.count(MAX), RANGE);
    }

    public static void main(String[] args) {
        p01NewObject();
        p02Class();
        p03Thing();
        p04AxiomErrors();
        p04AxiomForgets();
        p05Remove();
        p06Fuel();
        p07Known();
        p08Ask();
        p09Run();
        p09Placed();
        p10SameAsEmpty();
        p10Parent();
        p11Child();
        p12Equal();
        p13Empty();
        p14Open();
        p15Put();
        p16Type();
        p16TypeOfEmpty();
        p17Trace();
        p18Count();
        end("all promises hold");
    }
}
