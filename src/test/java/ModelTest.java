import java.util.Map;
import java.util.TreeMap;

/** Long runs of calls, the same in every test, on the class and on PlainModel: each answer must be the same. */
public final class ModelTest {
    private static final int RUNS = 1200;
    private static final int CALLS = 512;

    private static int wrong = 0;
    private static final Map<String, Integer> seen = new TreeMap<>();

    private final ClassifySort x = new ClassifySort();
    private final PlainModel model = new PlainModel();
    private final int run;
    private long seed;
    private int calls = 0;
    private int wrongHere = 0;
    private final int size;
    private final int changeShare;
    private final int alonePercent;
    private final int nothingPercent;
    private final int stepPercent;
    private final int length;

    private ModelTest(int run) {
        this.run = run;
        this.seed = 77L * run + 13;
        this.size = 2 + pick(run % 4 == 0 ? 19 : 8);
        this.changeShare = 1 + pick(6);
        this.alonePercent = 20 + pick(70);
        this.nothingPercent = pick(3) == 0 ? 0 : 1 + pick(20);
        // Long chains are what makes short fuel matter.
        this.stepPercent = pick(2) == 0 ? 0 : pick(80);
        this.length = 120 + pick(CALLS - 120);
    }

    private int pick(int below) {
        seed = seed * 6364136223846793005L + 1442695040888963407L;
        return (int) ((seed >>> 33) % below);
    }

    private void due(String call, int got, int want) {
        calls++;
        seen.merge(call.substring(0, call.indexOf('(')) + (want < 0 ? " " + want : ""), 1, Integer::sum);
        if (got != want) {
            wrong++;
            wrongHere++;
            if (wrongHere <= 3) {
                System.out.println("run " + run + ", call " + calls + ": " + call + " answered " + got + ", due is " + want);
            }
        }
    }

    private int aClass() {
        return pick(40) == 0 ? pick(25) - 2 : pick(Math.max(1, model.classes));
    }

    private int aGoal() {
        return pick(100) < nothingPercent ? -1 : aClass();
    }

    private int aThing() {
        return pick(30) == 0 ? pick(11) - 1 : pick(Math.max(1, model.count(2)));
    }

    private int anIndex() {
        return pick(30) == 0 ? -1 : pick(pick(5) + 1);
    }

    private static String call(String name, int... args) {
        StringBuilder text = new StringBuilder(name).append('(');
        for (int i = 0; i < args.length; i++) {
            text.append(i == 0 ? "" : ", ").append(args[i]);
        }
        return text.append(')').toString();
    }

    private void newClass() {
        due("class0()", x.class0(), model.class0());
    }

    private void newAxiom() {
        int left = aClass();
        int other = pick(100) < alonePercent ? -1 : aClass();
        int right = pick(100) < stepPercent ? left + 1 : aGoal();
        due(call("axiom", left, other, right), x.axiom(left, other, right), model.axiom(left, other, right));
    }

    private void change() {
        int kind = pick(20);
        if (kind < 2 && (model.classes < size || pick(30) == 0)) {
            newClass();
        } else if (kind < 9) {
            newAxiom();
        } else if (kind < 15) {
            int n = pick(20) == 0 ? pick(44) - 2 : pick(Math.max(1, model.count(1) + 3));
            due(call("remove", n), x.remove(n), model.remove(n));
        } else if (kind < 17) {
            int n = pick(15) == 0 ? pick(25) - 2 : pick(3) == 0 ? 20 : pick(6);
            due(call("fuel", n), x.fuel(n), model.fuel(n));
        } else if (kind < 18 && (model.count(2) == 0 || pick(6) == 0)) {
            due("thing()", x.thing(), model.thing());
        } else {
            int thing = aThing();
            int c = aClass();
            due(call("put", thing, c), x.put(thing, c), model.put(thing, c));
        }
    }

    private void sortAll() {
        due("run()", x.run(), model.run());
    }

    private void look() {
        int a = aClass();
        int b = aGoal();
        int i = anIndex();
        switch (pick(13)) {
            case 0: case 1: due(call("known", a, b), x.known(a, b), model.known(a, b)); break;
            case 2: due(call("ask", a, b), x.ask(a, b), model.ask(a, b)); break;
            case 3: due(call("parent", a, i), x.parent(a, i), model.parent(a, i)); break;
            case 4: due(call("child", a, i), x.child(a, i), model.child(a, i)); break;
            case 5: due(call("equal", a, i), x.equal(a, i), model.equal(a, i)); break;
            case 6: due(call("empty", i), x.empty(i), model.empty(i)); break;
            case 7: due(call("open", i), x.open(i), model.open(i)); break;
            case 8: {
                int thing = aThing();
                due(call("type", thing, i), x.type(thing, i), model.type(thing, i));
                break;
            }
            case 9: due(call("trace", a, b, i), x.trace(a, b, i), model.trace(a, b, i)); break;
            case 10: {
                int what = pick(9) - 1;
                due(call("count", what), x.count(what), model.count(what));
                break;
            }
            default: sortAll();
        }
    }

    /** Ends a run with every pair, so that nothing that went wrong on the way stays unseen. */
    private void lookAtAll() {
        sortAll();
        for (int a = 0; a < model.classes; a++) {
            for (int b = -1; b < model.classes; b++) {
                due(call("known", a, b), x.known(a, b), model.known(a, b));
            }
            for (int i = 0; i < 3; i++) {
                due(call("parent", a, i), x.parent(a, i), model.parent(a, i));
                due(call("child", a, i), x.child(a, i), model.child(a, i));
            }
        }
    }

    private void play() {
        int first = pick(size) + 1;
        for (int c = 0; c < first; c++) {
            newClass();
        }
        for (int n = pick(size + 4); n > 0; n--) {
            newAxiom();
        }
        while (calls < length) {
            if (pick(10) < changeShare) {
                change();
            } else {
                look();
            }
        }
        if (calls + 1 + model.classes * (model.classes + 7) <= CALLS) {
            lookAtAll();
        }
    }

    public static void main(String[] args) {
        for (int run = 0; run < RUNS; run++) {
            new ModelTest(run).play();
        }
        if (args.length > 0) {
            System.out.println(seen);
        }
        System.out.println(wrong == 0 ? "all answers are as the plain model's" : wrong + " answers are not as due");
        if (wrong != 0) {
            System.exit(1);
        }
    }
}
