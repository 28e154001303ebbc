/** What the tests share: checks that count what is wrong, and objects to begin with. */
abstract class Checks {
    static final int UNKNOWN = -1;
    static final int RANGE = -2;
    static final int NOT_NOW = -3;
    static final int FULL = -4;
    static final int CLASH = -5;
    static final int NONE = -6;
    static final int YES = 1;
    static final int NO = 0;
    static final int OPEN = 2;
    static final int NOT_KNOWN = 3;
    static final int MIN = Integer.MIN_VALUE;
    static final int MAX = Integer.MAX_VALUE;

    private static int wrong = 0;
    private static String sentence = "";

    /** The sentence of the document that the checks behind it belong to. */
    static void sentence(String text) {
        sentence = "\"" + text + "\": ";
    }

    static void fault(String text) {
        wrong++;
        System.out.println(sentence + text);
    }

    static void due(String what, int got, int want) {
        if (got != want) {
            fault(what + " answered " + got + ", due is " + want);
        }
    }

    static ClassifySort withClasses(int n) {
        ClassifySort x = new ClassifySort();
        for (int c = 0; c < n; c++) {
            due("class0()", x.class0(), c);
        }
        return x;
    }

    /** 0 below 1 below 2 .. by axioms 0, 1, .. */
    static ClassifySort withChain(int n) {
        ClassifySort x = withClasses(n);
        for (int c = 0; c + 1 < n; c++) {
            axioms(x, ax(c, c + 1));
        }
        return x;
    }

    static void axioms(ClassifySort x, int[]... rows) {
        for (int[] row : rows) {
            if (x.axiom(row[0], row[1], row[2]) < 0) {
                fault("an axiom was refused");
            }
        }
    }

    static int[] ax(int left, int other, int right) {
        return new int[] {left, other, right};
    }

    static int[] ax(int left, int right) {
        return ax(left, -1, right);
    }

    /** A thing that is told to be in some classes. */
    static int thingIn(ClassifySort x, int... classes) {
        int thing = x.thing();
        for (int c : classes) {
            due("put(" + thing + ", " + c + ")", x.put(thing, c), 1);
        }
        return thing;
    }

    static void end(String allIsWell) {
        System.out.println(wrong == 0 ? allIsWell : wrong + " answers are not as due");
        if (wrong != 0) {
            System.exit(1);
        }
    }
}
