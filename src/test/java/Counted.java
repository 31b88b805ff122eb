/** A FixedFacts that counts its calls: a test that makes more than the 512 of the document asks for what is free. */
final class Counted {
    static final int MOST_CALLS = 512;

    private final FixedFacts facts = new FixedFacts();
    private int calls = 0;

    int calls() {
        return calls;
    }

    private FixedFacts used() {
        calls++;
        if (calls > MOST_CALLS) {
            throw new IllegalStateException("a test calls one object more than 512 times");
        }
        return facts;
    }

    int told(int what) {
        return used().told(what);
    }

    int joined(int a, int b) {
        return used().joined(a, b);
    }

    int below(int a, int b) {
        return used().below(a, b);
    }

    int place(int p, int what) {
        return used().place(p, what);
    }

    int wayAt(int w, int what) {
        return used().wayAt(w, what);
    }

    int mapped(int w, int v) {
        return used().mapped(w, v);
    }

    int steps(int choice) {
        return used().steps(choice);
    }

    int worked(int choice, int p) {
        return used().worked(choice, p);
    }

    int build(int order, int m, int places) {
        return used().build(order, m, places);
    }

    int cell(int a, int b, int v) {
        return used().cell(a, b, v);
    }

    int start(int p, int v, int set) {
        return used().start(p, v, set);
    }

    int way(int from, int to) {
        return used().way(from, to);
    }

    int drop(int w) {
        return used().drop(w);
    }

    int map(int w, int a, int v) {
        return used().map(w, a, v);
    }

    int marks(int w, int gives, int takes) {
        return used().marks(w, gives, takes);
    }

    int gate(int w, int v) {
        return used().gate(w, v);
    }

    int write(int p, int v, int set) {
        return used().write(p, v, set);
    }

    int copy() {
        return used().copy();
    }

    int drift(int n) {
        return used().drift(n);
    }

    int undo(int n) {
        return used().undo(n);
    }

    int note(int p, int v, int set) {
        return used().note(p, v, set);
    }

    int tear() {
        return used().tear();
    }

    int seed(int v) {
        return used().seed(v);
    }

    int keep(int i) {
        return used().keep(i);
    }

    int goBack(int i) {
        return used().goBack(i);
    }

    /** A call by its name, for tests that go through all of them. */
    int call(String name, int... a) {
        return switch (name) {
            case "told" -> told(a[0]);
            case "joined" -> joined(a[0], a[1]);
            case "below" -> below(a[0], a[1]);
            case "place" -> place(a[0], a[1]);
            case "wayAt" -> wayAt(a[0], a[1]);
            case "mapped" -> mapped(a[0], a[1]);
            case "steps" -> steps(a[0]);
            case "worked" -> worked(a[0], a[1]);
            case "build" -> build(a[0], a[1], a[2]);
            case "cell" -> cell(a[0], a[1], a[2]);
            case "start" -> start(a[0], a[1], a[2]);
            case "way" -> way(a[0], a[1]);
            case "drop" -> drop(a[0]);
            case "map" -> map(a[0], a[1], a[2]);
            case "marks" -> marks(a[0], a[1], a[2]);
            case "gate" -> gate(a[0], a[1]);
            case "write" -> write(a[0], a[1], a[2]);
            case "copy" -> copy();
            case "drift" -> drift(a[0]);
            case "undo" -> undo(a[0]);
            case "note" -> note(a[0], a[1], a[2]);
            case "tear" -> tear();
            case "seed" -> seed(a[0]);
            case "keep" -> keep(a[0]);
            case "goBack" -> goBack(a[0]);
            default -> throw new IllegalArgumentException(name);
        };
    }
}
