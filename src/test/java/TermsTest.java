/** The section "Terms" and the sentence on 512 calls: each sentence with an edge has a test of its own, worked out by hand. */
public final class TermsTest extends Checks {

    private static void calls512() {
        sentence("An object is used for at most 512 calls after it has been made");
        ClassifySort x = withChain(2);
        due("fuel(0)", x.fuel(0), 0);
        due("(0,-) (1,-) (1,0)", x.run(), 3);
        for (int round = 0; round < 250; round++) {
            due("one was OPEN", x.fuel(0), 1);
            due("it is asked again", x.run(), 1);
        }
        int before = 2 + 1 + 1 + 1 + 500;
        for (int call = before; call < 511; call++) {
            due("known(0, 1)", x.known(0, 1), YES);
        }
        due("the 512th call", x.count(3), 253);
    }

    private static void classes20() {
        sentence("CLASSES are numbered from 0, at most 20");
        ClassifySort x = withClasses(20);
        due("one more", x.class0(), FULL);
        due("the last", x.known(19, 19), YES);
        due("there is no 20", x.known(20, 20), UNKNOWN);
        due("the last on the left, beside and on the right", x.axiom(19, 18, 17), 0);
        due("each, and all pairs both ways", x.run(), 20 + 20 * 19);
        due("all are placed", x.count(6), 20);
        due("the last one, sorted", x.equal(19, 0), 19);
        due("nothing above the last", x.parent(19, 0), NONE);
        axioms(x, ax(18, 19));
        due("the last is touched: it stands beside 18 on a left", x.known(19, 0), NOT_KNOWN);
        due("(18,-), (18,0) to (18,17), and (19,17); the rest follows", x.run(), 20);
        due("18 has 19 by telling, and 17 by both", x.parent(18, 0), 17);
        due("the last is above", x.parent(18, 1), 19);
    }

    private static void things8() {
        sentence("THINGS from 0, at most 8");
        ClassifySort x = withClasses(1);
        for (int t = 0; t < 8; t++) {
            due("thing()", x.thing(), t);
        }
        due("one more", x.thing(), FULL);
        x.run();
        due("the last", x.put(7, 0), 1);
        due("the last has a type", x.type(7, 0), 0);
        due("the one before has none", x.type(6, 0), NONE);
        due("there is no 8", x.put(8, 0), UNKNOWN);
    }

    private static void thingInSomeClasses() {
        sentence("a thing is told to be in some classes");
        ClassifySort x = withClasses(20);
        int none = thingIn(x);
        int all = thingIn(x, 0, 1, 2, 3, 4, 5, 6, 7, 8, 9, 10, 11, 12, 13, 14, 15, 16, 17, 18, 19);
        x.run();
        due("in none", x.type(none, 0), NONE);
        for (int i = 0; i < 20; i++) {
            due("in all, " + i, x.type(all, i), i);
        }
        due("there are no more", x.type(all, 20), NONE);
    }

    private static void axioms40() {
        sentence("AXIOMS are numbered from 0, at most 40 in all (one that went is not there any more, and its number stays its own)");
        ClassifySort x = withClasses(3);
        for (int n = 0; n < 39; n++) {
            due("axiom(0, 1, 2)", x.axiom(0, 1, 2), n);
        }
        due("the last", x.axiom(0, -1, 1), 39);
        due("the last fires", x.trace(0, 1, 0), 39);
        due("one more", x.axiom(0, 1, 2), FULL);
        for (int n = 0; n < 40; n++) {
            due("remove(" + n + ")", x.remove(n), n == 39 ? 1 : 0);
        }
        due("none is there", x.count(1), 0);
        due("but there were 40 in all", x.axiom(0, 1, 2), FULL);
        for (int n = 0; n < 40; n++) {
            due("it went: " + n, x.remove(n), UNKNOWN);
        }
    }

    private static void numberStaysItsOwn() {
        sentence("one that went is not there any more, and its number stays its own");
        ClassifySort x = withClasses(3);
        axioms(x, ax(0, 1), ax(1, 2));
        due("(0,1), (0,2)", x.remove(0), 2);
        due("a new number", x.axiom(2, -1, 0), 2);
        due("it fires no more", x.ask(0, 1), NO);
        due("it is told no more", x.known(0, 1), NOT_KNOWN);
        due("it can't go again", x.remove(0), UNKNOWN);
        due("the last that was made goes: (1,0), (2,0)", x.remove(2), 2);
        due("and its number, too, is its own", x.axiom(2, -1, 0), 3);
    }

    private static void leftOneOrTwo() {
        sentence("each has on its LEFT one class or two");
        ClassifySort x = withClasses(4);
        axioms(x, ax(1, 0, 2), ax(2, 3));
        int one = thingIn(x, 1);
        int both = thingIn(x, 0, 1);
        x.run();
        due("one of two is not enough", x.type(one, 0), 1);
        due("nor makes it more", x.type(one, 1), NONE);
        due("both, the first", x.type(both, 0), 0);
        due("both, the second", x.type(both, 1), 1);
        due("both, what follows", x.type(both, 2), 2);
        due("3 is above 2", x.type(both, 3), NONE);
    }

    private static void rightOrNothing() {
        sentence("on its RIGHT a class or NOTHING (told as -1)");
        ClassifySort x = withClasses(3);
        axioms(x, ax(0, 1, -1), ax(2, -1));
        due("one of the left is not below NOTHING", x.ask(0, -1), NO);
        due("the whole left is", x.ask(2, -1), YES);
        int both = thingIn(x, 0, 1);
        int one = thingIn(x, 1);
        x.run();
        due("a thing in both", x.type(both, 0), CLASH);
        due("a thing in one", x.type(one, 0), 1);
    }

    private static void rightThatIsItsLeft() {
        sentence("An axiom CAN FIRE when .. its right is none");
        ClassifySort x = withClasses(3);
        axioms(x, ax(0, 0), ax(0, 1, 1), ax(0, 1), ax(0, 1));
        due("fuel(1)", x.fuel(1), 0);
        due("one fires, then none can: a right that is a fact takes no fuel", x.ask(0, 2), NO);
        due("that one", x.trace(0, 1, 0), 2);
        due("fuel(0)", x.fuel(0), 0);
        due("one could", x.ask(0, 2), OPEN);
        x.remove(2);
        x.remove(3);
        due("none could: rights that are on the left", x.ask(0, 2), NO);
    }

    private static void factsAreTheStart() {
        sentence("FACTS are the START at first");
        ClassifySort x = withChain(2);
        due("fuel(0)", x.fuel(0), 0);
        due("the goal is the start", x.ask(0, 0), YES);
        due("none fired", x.trace(0, 0, 0), NONE);
        due("the goal is not", x.ask(0, 1), OPEN);
        int nowhere = x.thing();
        axioms(x, ax(0, -1), ax(1, -1));
        x.run();
        due("an empty start is below nothing", x.type(nowhere, 0), NONE);
    }

    private static void allOfTheLeft() {
        sentence("An axiom CAN FIRE when all of its left are FACTS");
        ClassifySort x = withClasses(4);
        axioms(x, ax(0, 1, 2), ax(3, 0), ax(3, 1));
        due("the one", x.ask(0, 2), NO);
        due("the other", x.ask(1, 2), NO);
        due("both", x.ask(3, 2), YES);
        due("fuel(0)", x.fuel(0), 0);
        due("it could not fire", x.ask(0, 2), NO);
    }

    private static void theLeastFires() {
        sentence("of those that can the one with the least number FIRES");
        ClassifySort x = withClasses(3);
        axioms(x, ax(0, 1), ax(0, 2));
        due("fuel(1)", x.fuel(1), 0);
        due("the least", x.ask(0, 1), YES);
        due("not the other", x.ask(0, 2), OPEN);
        x.remove(0);
        due("it came back behind", x.axiom(0, -1, 1), 2);
        due("the least now", x.ask(0, 2), YES);
        due("not the one that came back", x.ask(0, 1), OPEN);
    }

    private static void theLeastEachTime() {
        sentence("its right is a FACT then, too. This goes on");
        ClassifySort x = withClasses(4);
        axioms(x, ax(1, 2), ax(0, 1), ax(0, 3));
        due("fuel(2)", x.fuel(2), 0);
        due("1 fires, and then 0, which can now", x.ask(0, 2), YES);
        due("before 2", x.ask(0, 3), OPEN);
        due("the order", x.trace(0, 2, 0), 1);
        due("the order, then", x.trace(0, 2, 1), 0);
    }

    private static void tillGoalOrNothing() {
        sentence("till the GOAL or NOTHING is a FACT: the answer is YES");
        ClassifySort x = withClasses(4);
        axioms(x, ax(0, 1), ax(1, -1), ax(0, 2));
        due("the goal before NOTHING", x.trace(0, 1, 0), 0);
        due("nothing fires behind it", x.trace(0, 1, 1), NONE);
        due("NOTHING before the goal", x.trace(0, 2, 1), 1);
        due("2 does not fire", x.trace(0, 2, 2), NONE);
        due("a goal that is never a fact", x.ask(0, 3), YES);
        due("fuel(2)", x.fuel(2), 0);
        due("NOTHING as the last fuel is burnt", x.ask(0, 3), YES);
        due("fuel(1)", x.fuel(1), 0);
        due("the goal as the last fuel is burnt", x.ask(0, 1), YES);
        due("NOTHING is too far", x.ask(0, 3), OPEN);
    }

    private static void tillNoneCanFire() {
        sentence("or till no axiom can fire: NO");
        ClassifySort x = withChain(3);
        x.class0();
        due("fuel(2)", x.fuel(2), 0);
        due("all fuel is burnt, and none could fire", x.ask(0, 3), NO);
        due("fuel(0)", x.fuel(0), 0);
        due("no fuel, and none could fire", x.ask(2, 0), NO);
        due("nor for NOTHING", x.ask(3, -1), NO);
    }

    private static void asManyAsTheFuel() {
        sentence("or till one could, but as many as the FUEL (0 to 20; 20 at first) have fired: OPEN");
        ClassifySort x = withChain(20);
        axioms(x, ax(19, -1));
        due("20 at first", x.ask(0, -1), YES);
        due("20 fired", x.trace(0, -1, 19), 19);
        due("fuel(19)", x.fuel(19), 0);
        due("19 fire", x.ask(0, 19), YES);
        due("a 20th could", x.ask(0, -1), OPEN);
        due("19 are enough", x.ask(1, -1), YES);
        due("fuel(0)", x.fuel(0), 0);
        due("one could", x.ask(19, -1), OPEN);
        due("fuel(20)", x.fuel(20), 0);
        due("the most again", x.ask(0, -1), YES);
    }

    private static void yesOfItself() {
        sentence("YES by itself: for b that is a");
        ClassifySort x = withClasses(2);
        due("at once", x.known(1, 1), YES);
        axioms(x, ax(1, 1), ax(1, 0));
        due("an axiom that tells the same goes", x.remove(0), 0);
        due("and an axiom that touches it", x.remove(1), 1);
        due("still", x.known(1, 1), YES);
        due("it is not asked", x.ask(1, 1), YES);
        due("(0,-) (1,-) (1,0) (0,1)", x.run(), 4);
    }

    private static void yesByAxiom() {
        sentence("and for axioms that are there with a alone on the left and b on the right");
        ClassifySort x = withClasses(4);
        axioms(x, ax(0, 1, 2), ax(0, 3), ax(0, 3), ax(2, -1));
        due("two on the left", x.known(0, 2), NOT_KNOWN);
        due("two on the left, the other", x.known(1, 2), NOT_KNOWN);
        due("alone", x.known(0, 3), YES);
        due("not the other way round", x.known(3, 0), NOT_KNOWN);
        due("NOTHING on the right", x.known(2, -1), YES);
        due("a second is there", x.remove(1), 0);
        due("so it is told", x.known(0, 3), YES);
        due("none is there", x.remove(2), 1);
        due("so it is not", x.known(0, 3), NOT_KNOWN);
    }

    private static void nothingIsBelowEach() {
        sentence("NOTHING is below each class");
        ClassifySort x = withClasses(2);
        axioms(x, ax(0, -1));
        due("so what is below NOTHING is below a class", x.known(0, 1), YES);
        x.class0();
        due("below one that comes later, too", x.known(0, 2), YES);
        due("which is not below it", x.known(2, 0), NOT_KNOWN);
        due("nor below NOTHING", x.known(2, -1), NOT_KNOWN);
    }

    private static void yesIsClosed() {
        sentence("if a is below b and b below c, YES for a, c");
        ClassifySort x = withClasses(6);
        axioms(x, ax(2, 3), ax(0, 1), ax(1, 2));
        due("three steps, told in any order", x.known(0, 3), YES);
        due("not round", x.known(3, 0), NOT_KNOWN);
        axioms(x, ax(3, 0));
        due("a ring: all are the same", x.known(3, 2), YES);
        axioms(x, ax(4, 0), ax(3, -1));
        due("by NOTHING as b", x.known(4, 5), YES);
        due("by NOTHING as c", x.known(4, -1), YES);
        due("not what is above NOTHING alone", x.known(5, -1), NOT_KNOWN);
    }

    /** 0 below 1 and 3 below 2: asked are (0,-) (1,0) (2,-) (2,1) (0,2) (3,-) (3,1) (2,3), all NO. */
    private static void noIsClosed() {
        sentence("if NO for a, b, and a is below c, and d is below b, NO for c, d");
        ClassifySort x = withClasses(4);
        axioms(x, ax(0, 1), ax(3, 2));
        due("eight are asked", x.run(), 8);
        due("(0,2) for (1,2)", x.known(1, 2), NO);
        due("(0,2) for (0,3)", x.known(0, 3), NO);
        due("(0,2) for (1,3)", x.known(1, 3), NO);
        due("(2,1) for (2,0)", x.known(2, 0), NO);
        due("(3,1) for (3,0)", x.known(3, 0), NO);
        sentence("(NOTHING may be any of these)");
        due("(0,-) for (1,-)", x.known(1, -1), NO);
        due("(3,-) stands", x.known(3, -1), NO);
    }

    private static void openNoMoreByYes() {
        sentence("What is YES .. by that is OPEN no more");
        ClassifySort x = withClasses(4);
        axioms(x, ax(0, 1), ax(1, 2), ax(1, 3), ax(2, 3, -1));
        due("fuel(3)", x.fuel(3), 0);
        due("by itself it is OPEN", x.ask(0, -1), OPEN);
        x.run();
        due("(1,-) is YES, so this is", x.known(0, -1), YES);
        due("none is OPEN", x.open(0), NONE);
        due("no pair", x.count(4), 0);
        due("none was", x.fuel(3), 0);
    }

    private static void openNoMoreByNo() {
        sentence("What is .. NO by that is OPEN no more");
        ClassifySort x = withClasses(5);
        axioms(x, ax(4, 1), ax(4, 2));
        x.run();
        due("(4,3)", x.known(4, 3), NO);
        due("fuel(0)", x.fuel(0), 0);
        due("(4,1) goes", x.remove(0), 1);
        due("(4,1) is asked", x.run(), 1);
        due("it is OPEN", x.known(4, 1), OPEN);
        axioms(x, ax(1, 3));
        due("1 is below 3 now, and (4,3) is NO", x.known(4, 1), NO);
        due("none is OPEN", x.open(0), NONE);
        due("none was", x.fuel(0), 0);
    }

    private static void moduleTakesTheLeft() {
        sentence("with a class that is on the left of an axiom all others of that axiom, too");
        ClassifySort x = withClasses(5);
        axioms(x, ax(0, 1, 2));
        x.run();
        axioms(x, ax(1, 3));
        due("1 is the left", x.known(1, 4), NOT_KNOWN);
        due("0 has 1 in its module", x.known(0, 4), NOT_KNOWN);
        due("and NOTHING is any other", x.known(0, -1), NOT_KNOWN);
        due("2 is only on a right", x.known(2, 4), NO);
        due("3, too", x.known(3, 4), NO);
        due("4 is nowhere, its pair with 1 stays", x.known(4, 1), NO);
    }

    private static void moduleTakesTheRight() {
        sentence("The MODULE of a class is the least set of classes in which it is");
        ClassifySort x = withClasses(5);
        axioms(x, ax(0, 1, 2));
        x.run();
        axioms(x, ax(2, 3));
        due("0 has 2 in its module", x.known(0, 4), NOT_KNOWN);
        due("1, too", x.known(1, 4), NOT_KNOWN);
        due("2 is in its own", x.known(2, 4), NOT_KNOWN);
        due("3 is not touched", x.known(3, 4), NO);
        ClassifySort y = withClasses(4);
        axioms(y, ax(0, 1));
        y.run();
        axioms(y, ax(0, 2));
        due("a right does not take its left in", y.known(1, 3), NO);
        due("nor for NOTHING", y.known(1, -1), NO);
        due("the left is touched", y.known(0, 3), NOT_KNOWN);
    }

    private static void moduleIsFar() {
        sentence("The MODULE of a class is the least set of classes (the longest way)");
        for (int turn = 0; turn < 2; turn++) {
            ClassifySort x = withClasses(20);
            for (int c = 0; c < 18; c++) {
                int left = turn == 0 ? c : 17 - c;
                axioms(x, ax(left, left + 1));
            }
            x.run();
            due("NO for the first", x.known(0, 19), NO);
            axioms(x, ax(18, 18));
            for (int c = 0; c < 19; c++) {
                due("touched: " + c, x.known(c, 19), NOT_KNOWN);
            }
            due("19 is not", x.known(19, 18), NO);
        }
    }

    private static void moduleWithoutThoseThatWent() {
        sentence("one that went is not there any more: in no MODULE");
        ClassifySort x = withClasses(3);
        axioms(x, ax(0, 1));
        x.remove(0);
        x.run();
        axioms(x, ax(1, 2));
        due("0 is not touched", x.known(0, 2), NO);
        due("1 is", x.known(1, 0), NOT_KNOWN);
    }

    private static void comes() {
        sentence("When an axiom comes all that is NO or OPEN for a TOUCHED class and any other is forgotten");
        ClassifySort x = withClasses(5);
        axioms(x, ax(0, 1), ax(0, 2), ax(1, 2, 3));
        x.run();
        due("by an answer", x.known(0, 3), YES);
        due("an answer NO", x.known(0, -1), NO);
        axioms(x, ax(0, 4, 1));
        due("YES stays", x.known(0, 3), YES);
        due("NO goes", x.known(0, -1), NOT_KNOWN);
        due("for any other", x.known(0, 4), NOT_KNOWN);
        due("for the other of the left", x.known(4, 3), NOT_KNOWN);
        due("not for any other and a touched one", x.known(3, 0), NO);
        due("1 is not touched", x.known(1, 0), NO);
    }

    /** 0 below 1 and 2 below 3 with fuel 0: (0,-) (0,2) (0,3) (2,1) (2,-) are OPEN. */
    private static ClassifySort withFiveOpen() {
        ClassifySort x = withClasses(4);
        axioms(x, ax(0, 1), ax(2, 3));
        due("fuel(0)", x.fuel(0), 0);
        due("(0,-) (1,-) (1,0) (2,-) (2,1) (0,2) (3,-) (3,1) (3,2) (0,3)", x.run(), 10);
        due("five are OPEN", x.count(4), 5);
        return x;
    }

    private static void comesAndOpen() {
        sentence("When an axiom comes all that is .. OPEN for a TOUCHED class and any other is forgotten");
        ClassifySort x = withFiveOpen();
        axioms(x, ax(1, 3));
        due("(0,-) goes", x.known(0, -1), NOT_KNOWN);
        due("(0,2) goes", x.known(0, 2), NOT_KNOWN);
        due("(0,3) follows now", x.known(0, 3), YES);
        due("(2,1) stays", x.open(0), 32 * 2 + 1);
        due("(2,-) stays", x.open(1), 32 * 2 + 31);
        due("no more", x.open(2), NONE);
    }

    private static void goesAndOpen() {
        sentence("when it goes all that is .. OPEN");
        ClassifySort x = withFiveOpen();
        due("(2,1), (2,3), (2,-)", x.remove(1), 3);
        due("(0,2) stays", x.open(0), 2);
        due("(0,3) stays", x.open(1), 3);
        due("(0,-) stays", x.open(2), 31);
        due("no more", x.open(3), NONE);
    }

    private static void goes() {
        sentence("when it goes all that is YES or OPEN, but for what is YES by itself");
        ClassifySort x = withClasses(5);
        axioms(x, ax(0, 1), ax(0, 2), ax(1, 2, 3), ax(0, 4));
        x.run();
        due("by an answer", x.known(0, 3), YES);
        due("(0,3), (0,4)", x.remove(3), 2);
        due("YES by an answer goes", x.known(0, 3), NOT_KNOWN);
        due("YES by itself stays", x.known(0, 2), YES);
        due("NO stays", x.known(0, -1), NO);
        due("(0,3) is asked, and (0,4)", x.run(), 2);
        due("(0,3), as 2 goes", x.remove(2), 1);
        due("its left is touched by it, with it there", x.known(0, 3), NOT_KNOWN);
    }

    private static void goesBehindAnother() {
        sentence("A class is TOUCHED by an axiom when, with that axiom there, some class of its left is in the module");
        ClassifySort x = withClasses(6);
        axioms(x, ax(0, 1), ax(1, 2), ax(1, 3), ax(2, 3, 4), ax(0, 5));
        x.run();
        due("(0,4) by (1,4)", x.known(0, 4), YES);
        due("0 goes: (0,1) (0,2) (0,3) (0,4)", x.remove(0), 4);
        due("1 is not touched", x.known(1, 4), YES);
        due("0 is", x.known(0, 4), NOT_KNOWN);
        due("(0,5) is YES by itself", x.known(0, 5), YES);
        ClassifySort y = withChain(4);
        y.run();
        due("2 goes: (0,3) (1,3) (2,3)", y.remove(2), 3);
        due("0 was touched by 1 and 2", y.known(0, 3), NOT_KNOWN);
    }

    private static void closedAgainAsOneGoes() {
        sentence("Then all is closed again (one goes)");
        ClassifySort x = withClasses(6);
        axioms(x, ax(0, 1), ax(1, 2), ax(1, 3), ax(2, 3, 4), ax(0, 5));
        x.run();
        due("4 goes: (0,5)", x.remove(4), 1);
        due("(0,1) and (1,2) by themselves", x.known(0, 2), YES);
        due("(0,1) by itself, and (1,4) by an answer", x.known(0, 4), YES);
        ClassifySort y = withClasses(3);
        axioms(y, ax(0, -1), ax(0, 1));
        due("1 goes, but 0 is below NOTHING", y.remove(1), 0);
        due("so below 1", y.known(0, 1), YES);
        due("0 goes: (0,1) (0,2) (0,-)", y.remove(0), 3);
    }

    private static void closedAgainAsOneComes() {
        sentence("Then all is closed again (one comes)");
        ClassifySort x = withClasses(3);
        axioms(x, ax(2, 0));
        x.run();
        due("(2,0)", x.remove(0), 1);
        due("(2,1) stays", x.known(2, 1), NO);
        axioms(x, ax(0, 1));
        due("2 is not touched, but 0 is below 1 and (2,1) is NO", x.known(2, 0), NO);
    }

    private static void fuelForgetsOpen() {
        sentence("When the FUEL is told anew all that is OPEN is forgotten");
        ClassifySort x = withFiveOpen();
        due("the same fuel", x.fuel(0), 5);
        due("none is OPEN", x.open(0), NONE);
        due("of two classes", x.known(0, 2), NOT_KNOWN);
        due("of NOTHING", x.known(2, -1), NOT_KNOWN);
        due("YES stays", x.known(0, 1), YES);
        due("NO stays", x.known(1, 0), NO);
        due("they are asked again", x.run(), 5);
        due("and OPEN again", x.count(4), 5);
    }

    private static void sortAsksForNothing() {
        sentence("When one comes it is asked, unless it is known, whether it is below NOTHING");
        ClassifySort x = withClasses(1);
        due("it is asked", x.run(), 1);
        due("NO is known", x.run(), 0);
        axioms(x, ax(0, 0));
        due("it was forgotten", x.run(), 1);
        axioms(x, ax(0, -1));
        due("YES is known", x.run(), 0);
        due("when it is, it is EMPTY", x.empty(0), 0);
        due("and not placed", x.count(6), 0);
        ClassifySort y = withChain(2);
        due("fuel(0)", y.fuel(0), 0);
        due("(0,-) is OPEN; (1,-) (1,0)", y.run(), 3);
        due("OPEN is known", y.run(), 0);
        due("and not EMPTY", y.empty(0), NONE);
        due("but placed", y.count(6), 2);
    }

    private static void placedStaysPlaced() {
        sentence("one that was placed before stays PLACED, and is not EMPTY, if it becomes known by later answers that it is below NOTHING");
        ClassifySort x = withClasses(4);
        axioms(x, ax(0, 1), ax(1, 2), ax(1, 3), ax(2, 3, -1));
        x.fuel(3);
        x.run();
        due("it is below NOTHING", x.known(0, -1), YES);
        due("placed are 0, 2, 3", x.count(6), 3);
        due("EMPTY is 1", x.empty(0), 1);
        due("alone", x.empty(1), NONE);
        due("it has parents as a placed one", x.parent(0, 0), 2);
        due("both", x.parent(0, 1), 3);
        due("it is a child", x.child(2, 0), 0);
        due("it is the same as 1", x.equal(0, 1), 1);
        due("it comes again, known", x.run(), 0);
        due("and is EMPTY", x.empty(0), 0);
        due("not placed", x.count(6), 2);
        due("no child", x.child(2, 0), NONE);
    }

    private static void down() {
        sentence("DOWN: .. with the one that came in below all classes that are directly above them");
        ClassifySort x = withClasses(3);
        axioms(x, ax(0, 1));
        due("(0,-) (1,0) (2,-) (2,1) (0,2), and not (2,0) before (2,1)", x.run(), 5);
        ClassifySort y = withClasses(4);
        axioms(y, ax(0, 1), ax(1, 2), ax(3, 2));
        due("fuel(0)", y.fuel(0), 0);
        due("(0,-) (1,-) (1,0) (2,-) (2,1) (3,-) (3,1) (0,3)", y.run(), 8);
        due("3 is below 2, so 1 is looked at", y.known(3, 1), OPEN);
        due("3 is not below 1, so 0 is not", y.known(3, 0), NOT_KNOWN);
        due("in UP 0 is looked at", y.known(0, 3), OPEN);
        due("0 is not below 3, so 1 is not", y.known(1, 3), NOT_KNOWN);
    }

    private static void up() {
        sentence("UP: likewise of all placed classes that are below all placed ones that the one that came in is below");
        ClassifySort x = withClasses(4);
        axioms(x, ax(2, 1), ax(0, 3));
        due("fuel(0)", x.fuel(0), 0);
        due("(0,-) (1,-) (1,0) (0,1) (2,-) (2,0) (1,2) (3,-) (3,0) (3,1) (2,3)", x.run(), 11);
        due("2 is below 1, 0 is not known to be: not looked at", x.known(0, 2), NOT_KNOWN);
        due("1 is below itself: looked at", x.known(1, 2), NO);
        sentence("UP: .. and with all classes directly below them being below it");
        due("2 is looked at", x.known(2, 3), OPEN);
        due("it is directly below 1, and not below 3: 1 is not", x.known(1, 3), NOT_KNOWN);
    }

    private static void upAmongTheSame() {
        sentence("UP: .. below all placed ones that the one that came in is below (one that is the same is one of these)");
        ClassifySort x = withClasses(4);
        axioms(x, ax(1, 2), ax(0, 3), ax(2, 1));
        due("fuel(0)", x.fuel(0), 0);
        due("(0,-) (1,-) (1,0) (0,1) (2,-) (2,0) (3,-) (3,0) (3,1) (1,3) (2,3)", x.run(), 11);
        due("2 is below 1, 0 is not known to be: not looked at", x.known(0, 2), NOT_KNOWN);
    }

    private static void downBeforeUp() {
        sentence("DOWN: .. UP: ..");
        ClassifySort x = withClasses(3);
        axioms(x, ax(0, 2, 1), ax(2, 0));
        // DOWN finds 2 below 0 and 1; so there is none for UP, which before DOWN would have looked at 0.
        due("(0,-) (1,-) (1,0) (0,1) (2,-) (2,1)", x.run(), 6);
        due("(0,2) follows from (0,1)", x.known(0, 2), NO);
    }

    private static void downTheLeast() {
        sentence("DOWN: .. the least is looked at: is the one that came in below it?");
        ClassifySort x = withClasses(4);
        axioms(x, ax(0, 2), ax(3, 1), ax(3, 1, 0), ax(2, 0));
        due("fuel(2)", x.fuel(2), 0);
        due("(3,2) alone is too far", x.ask(3, 2), OPEN);
        due("(0,-) (1,-) (1,0) (0,1) (3,-) (3,0); (3,2) follows from (3,0)", x.run(), 6);
        due("it follows", x.known(3, 2), YES);
    }

    private static void upTheLeast() {
        sentence("UP: .. the least is looked at: is it below the one that came in?");
        ClassifySort x = withClasses(4);
        axioms(x, ax(3, 1), ax(1, 0), ax(1, 0, 2), ax(0, 3));
        due("fuel(2)", x.fuel(2), 0);
        due("(0,-) (1,-) (2,-) (2,0), (0,2) which is OPEN, (1,2) by which it is YES, (3,-)", x.run(), 7);
        due("OPEN no more", x.known(0, 2), YES);
    }

    private static void lookedAtBothWays() {
        sentence("as long as there is one, of all placed classes that were not looked at so");
        due("none are placed: (0,-)", withClasses(1).run(), 1);
        ClassifySort x = withClasses(2);
        due("DOWN and UP look apart: (0,-) (1,-) (1,0) (0,1)", x.run(), 4);
        due("down", x.known(1, 0), NO);
        due("up", x.known(0, 1), NO);
        ClassifySort y = withClasses(20);
        axioms(y, ax(0, 1), ax(1, 0));
        due("fuel(0)", y.fuel(0), 0);
        due("(0,-) (1,-); of 18 each (c,-) (c,0) (0,c) (1,c), and those among them both ways", y.run(), 2 + 18 * 4 + 18 * 17);
        due("the same as one that was looked at is looked at, too", y.known(1, 19), OPEN);
    }

    private static void askedOnlyIfNothingIsKnown() {
        sentence("Each of these is asked only if nothing is known of it (OPEN is known)");
        ClassifySort x = withFiveOpen();
        due("OPEN is known", x.run(), 0);
        x.class0();
        due("(4,-) (4,1) (4,3) (0,4) (2,4)", x.run(), 5);
        due("what a run left out is asked by none", x.known(1, 2), NOT_KNOWN);
        ClassifySort y = withClasses(3);
        axioms(y, ax(0, 1), ax(1, 0), ax(2, 0), ax(2, 1));
        due("YES by itself is known: (0,-), (2,-), (0,2); the rest follows", y.run(), 3);
        due("it follows", y.known(1, 2), NO);
    }

    private static void directly() {
        sentence("d is directly above c when c is below d, d not below c, and there is no placed e with c below e, e not below c, e below d, d not below e");
        ClassifySort x = withClasses(5);
        axioms(x, ax(0, 1), ax(1, 2), ax(2, 1), ax(2, 3), ax(0, 3), ax(4, 3));
        x.run();
        due("1 and 2 are the same: neither stands between", x.parent(0, 0), 1);
        due("3 is not directly above 0", x.parent(0, 1), NONE);
        due("the same is not above: 1", x.parent(1, 0), 3);
        due("no more", x.parent(1, 1), NONE);
        due("the same is not above: 2", x.parent(2, 0), 3);
        due("no more", x.parent(2, 1), NONE);
        sentence("Directly below: the other way round");
        due("of the same the first", x.child(3, 0), 1);
        due("and 4, but not 0", x.child(3, 1), 4);
        due("no more", x.child(3, 2), NONE);
        due("below 1", x.child(1, 0), 0);
        due("below 2", x.child(2, 0), 0);
        due("2 is not below 1", x.child(1, 1), NONE);
    }

    private static void belowIsKnownYes() {
        sentence("(Below is always what is known to be YES.)");
        ClassifySort x = withClasses(4);
        axioms(x, ax(0, 1), ax(0, 2), ax(1, 2, 3));
        due("fuel(2)", x.fuel(2), 0);
        x.run();
        due("it is OPEN", x.known(0, 3), OPEN);
        due("so 3 is not above 0", x.parent(0, 2), NONE);
        due("nor 0 below 3", x.child(3, 0), NONE);
        due("fuel(20)", x.fuel(20), 2);
        x.run();
        due("it is YES", x.parent(0, 2), 3);
        due("and the other way round", x.child(3, 0), 0);
        due("fuel(0)", x.fuel(0), 0);
        x.run();
        due("what is known stays, though the reasoner would say OPEN", x.parent(0, 2), 3);
        due("it would", x.ask(0, 3), OPEN);
    }

    private static ClassifySort sorted() {
        ClassifySort x = withChain(3);
        thingIn(x, 0);
        due("not before", x.count(5), 0);
        x.run();
        due("SORTED", x.count(5), 1);
        return x;
    }

    private static void sortedTill() {
        sentence("All is SORTED from TO SORT on till a class .. comes");
        ClassifySort x = sorted();
        x.class0();
        due("a class came", x.count(5), 0);
        x.run();
        due("till the next run", x.count(5), 1);
        sentence("All is SORTED .. till .. an axiom comes");
        x.axiom(0, 1, 2);
        due("an axiom came", x.count(5), 0);
        x.run();
        due("till the next run", x.count(5), 1);
        sentence("All is SORTED .. till .. an axiom goes");
        due("nothing is forgotten, but", x.remove(2), 0);
        due("an axiom went", x.count(5), 0);
        x.run();
        due("till the next run", x.count(5), 1);
        sentence("All is SORTED .. till .. the FUEL is told anew");
        due("none is OPEN, and it is the same, but", x.fuel(20), 0);
        due("it was told", x.count(5), 0);
        due("nothing is asked", x.run(), 0);
        due("till the next run", x.count(5), 1);
    }

    private static void sortedStays() {
        sentence("All is SORTED .. till: nothing else ends it");
        ClassifySort x = sorted();
        due("thing()", x.thing(), 1);
        due("after thing", x.count(5), 1);
        due("put(1, 2)", x.put(1, 2), 1);
        due("after put", x.count(5), 1);
        due("a thing that came later has a type", x.type(1, 0), 2);
        due("run()", x.run(), 0);
        due("after run", x.count(5), 1);
        x.known(0, 1);
        x.ask(2, 0);
        x.trace(0, 2, 0);
        x.open(0);
        x.type(0, 0);
        due("after looks", x.count(5), 1);
    }

    public static void main(String[] args) {
        calls512();
        classes20();
        things8();
        thingInSomeClasses();
        axioms40();
        numberStaysItsOwn();
        leftOneOrTwo();
        rightOrNothing();
        rightThatIsItsLeft();
        factsAreTheStart();
        allOfTheLeft();
        theLeastFires();
        theLeastEachTime();
        tillGoalOrNothing();
        tillNoneCanFire();
        asManyAsTheFuel();
        yesOfItself();
        yesByAxiom();
        nothingIsBelowEach();
        yesIsClosed();
        noIsClosed();
        openNoMoreByYes();
        openNoMoreByNo();
        moduleTakesTheLeft();
        moduleTakesTheRight();
        moduleIsFar();
        moduleWithoutThoseThatWent();
        comes();
        comesAndOpen();
        goesAndOpen();
        goes();
        goesBehindAnother();
        closedAgainAsOneGoes();
        closedAgainAsOneComes();
        fuelForgetsOpen();
        sortAsksForNothing();
        placedStaysPlaced();
        down();
        up();
        upAmongTheSame();
        downBeforeUp();
        downTheLeast();
        upTheLeast();
        lookedAtBothWays();
        askedOnlyIfNothingIsKnown();
        directly();
        belowIsKnownYes();
        sortedTill();
        sortedStays();
        end("all terms hold");
    }
}
