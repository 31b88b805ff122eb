import java.util.ArrayList;
import java.util.List;
import java.util.Random;

/** Runs of random calls, the class against the model of the document, answer by answer. */
public final class ModelTest {
    private static final int RUNS = 1500, MOST_LOOKS = 13 + 10 * 8 + 20 * 9 + 3, MOST_SHOWN = 20;
    private static final int[] FAR = {Integer.MIN_VALUE, Integer.MIN_VALUE + 1, -1000000001, -65536, -2, -1, 256, 257, 65536,
        1 << 30, Integer.MAX_VALUE - 1, Integer.MAX_VALUE};

    private static long answers = 0;
    private static int wrong = 0;

    private final Random random;
    private final int run;
    private final boolean tame;
    private final Counted x = new Counted();
    private final Model model = new Model();

    private ModelTest(int run) {
        this.run = run;
        random = new Random(run);
        tame = run % 3 != 0;
    }

    public static void main(String[] args) {
        for (int run = 0; run < RUNS; run++) {
            new ModelTest(run).go();
        }
        for (int run = 0; run < 400; run++) {
            leastOfAll(new Random(run));
        }
        System.out.println("ModelTest: " + answers + " answers, " + wrong + " not as due");
        if (wrong != 0) {
            System.exit(1);
        }
    }

    private void due(String call, int got, int want) {
        answers++;
        if (got != want) {
            wrong++;
            if (wrong <= MOST_SHOWN) {
                System.out.println("run " + run + ": " + call + " answered " + got + ", due is " + want);
            }
        }
    }

    /** Just as many calls as an object is used for. */
    private void go() {
        while (x.calls() < Counted.MOST_CALLS) {
            if (random.nextInt(60) == 0 && x.calls() + MOST_LOOKS <= Counted.MOST_CALLS) {
                lookAtAll();
            } else {
                call();
            }
        }
    }

    /** Mostly a number that there is, now and then the first that there is not, or one far off. */
    private int near(int bound) {
        int kind = random.nextInt(40);
        if (kind == 0) {
            return FAR[random.nextInt(FAR.length)];
        }
        if (kind == 1) {
            return bound;
        }
        if (kind == 2) {
            return -1;
        }
        return bound > 0 ? random.nextInt(bound) : 0;
    }

    private int value() {
        return near(model.told(0));
    }

    private int place() {
        return near(model.told(1));
    }

    private int way() {
        return near(model.told(2));
    }

    private int set() {
        return random.nextInt(3) == 0 ? near(256) : random.nextInt(8) == 0 ? 0 : 1 << random.nextInt(8);
    }

    private void call() {
        int kind = random.nextInt(100);
        if (kind < 40) {
            ask(random.nextInt(8));
        } else if (kind < 85) {
            tell(random.nextInt(40));
        } else {
            keepBooks(random.nextInt(14));
        }
    }

    private void ask(int kind) {
        int a, b;
        switch (kind) {
            case 0 -> {
                a = near(13);
                due("told(" + a + ")", x.told(a), model.told(a));
            }
            case 1 -> {
                a = value();
                b = value();
                due("joined(" + a + ", " + b + ")", x.joined(a, b), model.joined(a, b));
            }
            case 2 -> {
                a = value();
                b = value();
                due("below(" + a + ", " + b + ")", x.below(a, b), model.below(a, b));
            }
            case 3 -> {
                a = place();
                b = near(8);
                due("place(" + a + ", " + b + ")", x.place(a, b), model.place(a, b));
            }
            case 4 -> {
                a = way();
                b = near(9);
                due("wayAt(" + a + ", " + b + ")", x.wayAt(a, b), model.wayAt(a, b));
            }
            case 5 -> {
                a = way();
                b = value();
                due("mapped(" + a + ", " + b + ")", x.mapped(a, b), model.mapped(a, b));
            }
            case 6 -> {
                a = near(3);
                due("steps(" + a + ")", x.steps(a), model.steps(a));
            }
            default -> {
                a = near(3);
                b = place();
                due("worked(" + a + ", " + b + ")", x.worked(a, b), model.worked(a, b));
            }
        }
    }

    private void tell(int kind) {
        int a, b, c;
        if (kind < 1) {
            a = near(3);
            b = 1 + near(8);
            c = random.nextInt(6) == 0 ? 0 : near(11);
            due("build(" + a + ", " + b + ", " + c + ")", x.build(a, b, c), model.build(a, b, c));
        } else if (kind < 3) {
            a = value();
            b = value();
            c = tame ? model.joined(a, b) : value();
            due("cell(" + a + ", " + b + ", " + c + ")", x.cell(a, b, c), model.cell(a, b, c));
        } else if (kind < 8) {
            a = place();
            b = value();
            c = set();
            due("start(" + a + ", " + b + ", " + c + ")", x.start(a, b, c), model.start(a, b, c));
        } else if (kind < 17) {
            a = place();
            b = place();
            due("way(" + a + ", " + b + ")", x.way(a, b), model.way(a, b));
        } else if (kind < 20) {
            a = way();
            due("drop(" + a + ")", x.drop(a), model.drop(a));
        } else if (kind < 24) {
            a = way();
            b = value();
            c = tame ? mapInOrder(a, b) : value();
            due("map(" + a + ", " + b + ", " + c + ")", x.map(a, b, c), model.map(a, b, c));
        } else if (kind < 28) {
            a = way();
            b = set();
            c = set();
            due("marks(" + a + ", " + b + ", " + c + ")", x.marks(a, b, c), model.marks(a, b, c));
        } else if (kind < 31) {
            a = way();
            b = value();
            due("gate(" + a + ", " + b + ")", x.gate(a, b), model.gate(a, b));
        } else if (kind < 36) {
            a = place();
            b = value();
            c = set();
            due("write(" + a + ", " + b + ", " + c + ")", x.write(a, b, c), model.write(a, b, c));
        } else if (kind < 37) {
            due("copy()", x.copy(), model.copy());
        } else if (kind < 38) {
            a = 1 + near(random.nextBoolean() ? 3 : 16);
            due("drift(" + a + ")", x.drift(a), model.drift(a));
        } else {
            a = 1 + near(random.nextBoolean() ? 3 : 16);
            due("undo(" + a + ")", x.undo(a), model.undo(a));
        }
    }

    /** A VALUE for a MAP that keeps it in order, so that most runs stay well. */
    private int mapInOrder(int w, int a) {
        Model.State state = model.state();
        if (w < 0 || w >= state.ways.size() || a < 0 || a >= state.m) {
            return value();
        }
        Model.Way twin = state.ways.get(w).twin();
        List<Integer> fit = new ArrayList<>();
        for (int v = 0; v < state.m; v++) {
            twin.map[a] = v;
            if (state.keepsOrder(twin)) {
                fit.add(v);
            }
        }
        return fit.isEmpty() || random.nextInt(30) == 0 ? value() : fit.get(random.nextInt(fit.size()));
    }

    private void keepBooks(int kind) {
        int a, b, c;
        if (kind < 3) {
            a = place();
            b = value();
            c = set();
            due("note(" + a + ", " + b + ", " + c + ")", x.note(a, b, c), model.note(a, b, c));
        } else if (kind < 9) {
            a = place();
            b = model.place(a, 2);
            c = model.place(a, 3);
            due("note(" + a + ", " + b + ", " + c + ")", x.note(a, b, c), model.note(a, b, c));
        } else if (kind < 10) {
            due("tear()", x.tear(), model.tear());
        } else if (kind < 12) {
            a = random.nextInt(4) == 0 ? near(2147483647) : random.nextInt(2147483647);
            due("seed(" + a + ")", x.seed(a), model.seed(a));
        } else if (kind < 13) {
            a = near(2);
            due("keep(" + a + ")", x.keep(a), model.keep(a));
        } else {
            a = near(2);
            due("goBack(" + a + ")", x.goBack(a), model.goBack(a));
        }
    }

    private void lookAtAll() {
        for (int what = 0; what <= 12; what++) {
            due("told(" + what + ")", x.told(what), model.told(what));
        }
        for (int p = 0; p < model.told(1); p++) {
            for (int what = 0; what <= 7; what++) {
                due("place(" + p + ", " + what + ")", x.place(p, what), model.place(p, what));
            }
        }
        for (int w = 0; w < model.told(2); w++) {
            for (int what = 0; what <= 8; what++) {
                due("wayAt(" + w + ", " + what + ")", x.wayAt(w, what), model.wayAt(w, what));
            }
        }
        for (int choice = 0; choice < 3; choice++) {
            due("steps(" + choice + ")", x.steps(choice), model.steps(choice));
        }
    }

    /** In a small web all that could be known is gone through: what is KNOWN holds, and is no more than all that holds. */
    private static void leastOfAll(Random random) {
        ModelTest test = new ModelTest(1);
        int m = 2 + random.nextInt(3), places = 1 + random.nextInt(3);
        int order = random.nextInt(2), ways = 1 + random.nextInt(5);
        test.due("build", test.x.build(order, m, places), test.model.build(order, m, places));
        for (int w = 0; w < ways; w++) {
            int from = random.nextInt(places), to = random.nextInt(places);
            test.due("way", test.x.way(from, to), test.model.way(from, to));
            int a = random.nextInt(m), v = test.mapInOrder(w, a);
            test.due("map", test.x.map(w, a, v), test.model.map(w, a, v));
            int gives = random.nextInt(4), takes = random.nextInt(4), gate = random.nextInt(m);
            test.due("marks", test.x.marks(w, gives, takes), test.model.marks(w, gives, takes));
            test.due("gate", test.x.gate(w, gate), test.model.gate(w, gate));
        }
        int p = random.nextInt(places), v = random.nextInt(m), set = random.nextInt(4);
        test.due("start", test.x.start(p, v, set), test.model.start(p, v, set));
        if (test.model.told(5) == 1) {
            test.lookForLess(m, places);
        }
    }

    private void lookForLess(int m, int places) {
        List<Model.Fact> known = new ArrayList<>();
        for (int p = 0; p < places; p++) {
            known.add(new Model.Fact(x.place(p, 2), x.place(p, 3)));
        }
        due("what is known holds", holds(known) ? 1 : 0, 1);
        int all = 1;
        for (int p = 0; p < places; p++) {
            all *= m * 4;
        }
        for (int k = 0; k < all; k++) {
            List<Model.Fact> facts = new ArrayList<>();
            for (int p = 0, rest = k; p < places; p++, rest /= m * 4) {
                facts.add(new Model.Fact(rest % (m * 4) / 4, rest % 4));
            }
            if (holds(facts)) {
                for (int p = 0; p < places; p++) {
                    due("the least that holds", model.state().noMore(known.get(p), facts.get(p)) ? 1 : 0, 1);
                }
            }
        }
    }

    private boolean holds(List<Model.Fact> facts) {
        Model.State state = model.state();
        for (int p = 0; p < state.places; p++) {
            if (!state.noMore(state.start.get(p), facts.get(p))) {
                return false;
            }
        }
        for (Model.Way way : state.ways) {
            if (!state.noMore(state.brings(way, facts), facts.get(way.to))) {
                return false;
            }
        }
        return true;
    }
}
