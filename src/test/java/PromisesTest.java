import java.io.IOException;

/** Each promise of the document by hand: ordinary inputs, the edges that it names, wrong inputs. */
public final class PromisesTest {
    private static final int NONE = FixedFacts.NONE, UNKNOWN = FixedFacts.UNKNOWN, OUTSIDE = FixedFacts.OUTSIDE,
            NOT = FixedFacts.NOT, FULL = FixedFacts.FULL;
    private static final int[] FAR = {Integer.MIN_VALUE, -1000000001, -2, -1, 256, 1000, Integer.MAX_VALUE};

    private static Check check;

    private static void due(String call, int got, int want) {
        check.due(call, got, want);
    }

    public static void main(String[] args) throws IOException {
        check = new Check("PromisesTest");
        promise1New();
        promise2Told();
        promise2Laws();
        promise2Order();
        promise3Joined();
        promise4Below();
        promise5Place();
        promise6WayAt();
        promise7Mapped();
        promise8Steps();
        promise9Worked();
        promise10Build();
        promise11Cell();
        promise12Start();
        promise13Way();
        promise14Drop();
        promise15Map();
        promise16Marks();
        promise17Gate();
        promise18Write();
        promise19Copy();
        promise20Drift();
        promise21Undo();
        promise21UndoesEachDeed();
        promise22Note();
        promise23Tear();
        promise24Seed();
        promise25Keep();
        promise26GoBack();
        emptyWeb();
        fullWeb();
        check.end();
    }

    // ---- helpers

    /** A ring 0 -> 1 -> 2 -> 0 on a chain of 4, started at PLACE 0 with VALUE 1, mark 0. */
    private static Counted ring() {
        Counted x = new Counted();
        x.build(0, 4, 3);
        x.way(0, 1);
        x.way(1, 2);
        x.way(2, 0);
        x.start(0, 1, 1);
        return x;
    }

    /** Everything that can be asked, in one number. */
    private static long print(Counted x) {
        long sum = 17;
        for (int what = 0; what <= 12; what++) {
            sum = sum * 31 + x.told(what);
        }
        return sum * 31 + printWeb(x);
    }

    private static long printWeb(Counted x) {
        long sum = 7;
        for (int what = 0; what <= 9; what++) {
            sum = sum * 31 + x.told(what);
        }
        int values = x.told(0), places = x.told(1), ways = x.told(2);
        for (int a = 0; a < values; a++) {
            for (int b = 0; b < values; b++) {
                sum = sum * 31 + x.joined(a, b);
            }
        }
        for (int p = 0; p < places; p++) {
            for (int what = 0; what <= 7; what++) {
                sum = sum * 31 + x.place(p, what);
            }
        }
        for (int w = 0; w < ways; w++) {
            for (int what = 0; what <= 8; what++) {
                sum = sum * 31 + x.wayAt(w, what);
            }
            for (int v = 0; v < values; v++) {
                sum = sum * 31 + x.mapped(w, v);
            }
        }
        return sum;
    }

    private static void same(String call, long got, long want) {
        due(call, got == want ? 1 : 0, 1);
    }

    // ---- the promises

    private static void promise1New() {
        check.says("`FixedFacts()`: As told at first.");
        Counted x = new Counted();
        int[] told = {4, 4, 0, 0, NONE, 1, 0, NONE, 1, 0, 0, NONE, 0};
        for (int what = 0; what < told.length; what++) {
            due("new: told(" + what + ")", x.told(what), told[what]);
        }
        for (int a = 0; a < 4; a++) {
            for (int b = 0; b < 4; b++) {
                due("new: joined", x.joined(a, b), Math.max(a, b));
            }
        }
        for (int p = 0; p < 4; p++) {
            for (int what = 0; what < 8; what++) {
                due("new: place(" + p + ", " + what + ")", x.place(p, what), what < 6 ? 0 : NONE);
            }
        }
        due("new: seed", x.seed(0), 0);
        due("new: goBack(0)", x.goBack(0), NOT);
        due("new: goBack(1)", x.goBack(1), NOT);
        due("new: undo(1)", x.undo(1), NOT);
        due("new: tear", x.tear(), 0);
        due("NONE", NONE, -1);
        due("UNKNOWN", UNKNOWN, -1000000001);
        due("OUTSIDE", OUTSIDE, -1000000002);
        due("NOT", NOT, -1000000003);
        due("FULL", FULL, -1000000004);
    }

    private static void promise2Told() {
        check.says("`int told(int what)`: 0 M, 1 PLACES, 2 WAYS, 3 BROKEN, 4 the first WAY that does not KEEP ORDER (NONE), "
                + "5 1 ALL IS WELL, 0 not, 6 KEPT (a SET of PLACES), 7 REFUSED AT, 8 1 EXACT, 0 not, 9 MATTERS (NONE: not "
                + "ALL IS WELL), 10 entries of THE BOOK, 11 WRONG, 12 how many can be undone. OUTSIDE.");
        Counted x = ring();
        int[] told = {4, 3, 3, 0, NONE, 1, 1, 0, 0, 3, 0, NONE, 5};
        for (int what = 0; what < told.length; what++) {
            due("ring: told(" + what + ")", x.told(what), told[what]);
        }
        due("told(13)", x.told(13), OUTSIDE);
        for (int far : FAR) {
            due("told(" + far + ")", x.told(far), OUTSIDE);
        }
        x.copy();
        due("ring copied: told(7)", x.told(7), NONE);
        due("ring copied: told(8)", x.told(8), 1);
        due("more is written than is known: taken", x.write(0, 2, 1), NONE);
        due("more is written than is known: not exact", x.told(8), 0);
        due("note", x.note(2, 1, 1), 1);
        due("note", x.note(1, 1, 3), 2);
        due("note", x.note(0, 2, 1), 3);
        due("told(10)", x.told(10), 3);
        due("the second entry is wrong", x.told(11), 1);
        x.map(1, 1, 3);
        x.map(1, 2, 2);
        due("a way out of order: told(4)", x.told(4), 1);
        due("not all is well: told(5)", x.told(5), 0);
        due("not all is well: told(8)", x.told(8), 0);
        due("not all is well: told(9)", x.told(9), NONE);
        due("not all is well: told(11)", x.told(11), 0);
        x.tear();
        due("not all is well, no book: told(11)", x.told(11), NONE);
    }

    private static void promise2Laws() {
        check.says("`int told(int what)`: 0 M, 1 PLACES, 2 WAYS, 3 BROKEN, 4 the first WAY that does not KEEP ORDER (NONE), "
                + "5 1 ALL IS WELL, 0 not, 6 KEPT (a SET of PLACES), 7 REFUSED AT, 8 1 EXACT, 0 not, 9 MATTERS (NONE: not "
                + "ALL IS WELL), 10 entries of THE BOOK, 11 WRONG, 12 how many can be undone. OUTSIDE.");
        Counted x = new Counted();
        x.build(0, 3, 1);
        due("a chain of 3: all laws hold", x.told(3), 0);
        due("1 joined 1 is 2: law 1", x.cell(1, 1, 2), 1);
        due("law 1 is told ahead of law 2", x.cell(2, 1, 1), 1);
        due("1 joined 1 is 1: law 2 is left", x.cell(1, 1, 1), 2);
        due("1 joined 2 is 1 too: 0, 2, 1 is a chain", x.cell(1, 2, 1), 0);
        x.build(0, 3, 1);
        x.cell(0, 1, 0);
        due("1, 0, 2 is a chain, but 0 is not its least: law 4", x.cell(1, 0, 0), 4);
        x.build(0, 2, 1);
        x.cell(0, 1, 0);
        due("law 4 of two values", x.cell(1, 0, 0), 4);
        due("not all is well by a law", x.told(5), 0);
        due("below follows the table", x.below(1, 0), 1);
        due("below follows the table", x.below(0, 1), 0);
        x.build(0, 4, 0);
        x.cell(1, 2, 3);
        due("law 3: 1 joined 2 is 3, 2 joined 1 too", x.cell(2, 1, 3), 0);
        x.cell(1, 3, 1);
        due("law 3: (1 joined 2) joined 1", x.cell(3, 1, 1), 3);
        x.build(0, 1, 1);
        due("one value: all laws hold", x.told(3), 0);
    }

    private static void promise2Order() {
        check.says("`int told(int what)`: 0 M, 1 PLACES, 2 WAYS, 3 BROKEN, 4 the first WAY that does not KEEP ORDER (NONE), "
                + "5 1 ALL IS WELL, 0 not, 6 KEPT (a SET of PLACES), 7 REFUSED AT, 8 1 EXACT, 0 not, 9 MATTERS (NONE: not "
                + "ALL IS WELL), 10 entries of THE BOOK, 11 WRONG, 12 how many can be undone. OUTSIDE.");
        Counted x = new Counted();
        x.build(1, 5, 2);
        x.way(0, 1);
        x.way(1, 0);
        x.map(1, 1, 2);
        due("unlike ones of a fan may go anywhere", x.told(4), NONE);
        x.map(1, 4, 2);
        due("the top becomes 2, 3 stays: out of order", x.told(4), 1);
        due("wayAt(1, 5)", x.wayAt(1, 5), 0);
        due("wayAt(0, 5)", x.wayAt(0, 5), 1);
        x.map(0, 0, 1);
        due("0 becomes 1, 2 stays: out of order", x.told(4), 0);
        due("laws still hold", x.told(3), 0);
        due("not all is well", x.told(5), 0);
        x.drop(0);
        due("the way that is left", x.told(4), 0);
        x.build(0, 2, 1);
        x.way(0, 0);
        x.cell(1, 1, 0);
        due("1 is not below itself: the map of 0 and 1 keeps what is below", x.told(4), NONE);
        x.map(0, 0, 1);
        due("0 is below 0, but 1 is not below 1", x.told(4), 0);
    }

    private static void promise3Joined() {
        check.says("`int joined(int a, int b)`: a JOINED b. UNKNOWN.");
        for (int m = 1; m <= 8; m++) {
            Counted x = new Counted();
            x.build(0, m, 0);
            for (int a = 0; a < m; a++) {
                for (int b = 0; b < m; b++) {
                    due("chain", x.joined(a, b), a < b ? b : a);
                }
            }
            x.build(1, m, 0);
            for (int a = 0; a < m; a++) {
                for (int b = 0; b < m; b++) {
                    due("fan", x.joined(a, b), a == 0 || a == b ? b : b == 0 ? a : m - 1);
                }
            }
            due("fan: the laws hold", x.told(3), 0);
            due("joined(m, 0)", x.joined(m, 0), UNKNOWN);
            due("joined(0, m)", x.joined(0, m), UNKNOWN);
        }
        Counted x = new Counted();
        x.build(2, 3, 0);
        for (int a = 0; a < 8; a++) {
            for (int b = 0; b < 8; b++) {
                due("bits", x.joined(a, b), a | b);
            }
        }
        for (int far : FAR) {
            due("joined far", x.joined(far, 0), UNKNOWN);
            due("joined far", x.joined(0, far), UNKNOWN);
        }
    }

    private static void promise4Below() {
        check.says("`int below(int a, int b)`: a is BELOW b: 1, 0. UNKNOWN.");
        Counted x = new Counted();
        x.build(2, 8, 0);
        for (int a = 0; a < 8; a++) {
            for (int b = 0; b < 8; b++) {
                due("bits: below", x.below(a, b), (a & ~b) == 0 ? 1 : 0);
            }
        }
        due("below(8, 0)", x.below(8, 0), UNKNOWN);
        due("below(0, 8)", x.below(0, 8), UNKNOWN);
        for (int far : FAR) {
            due("below far", x.below(far, 0), UNKNOWN);
            due("below far", x.below(0, far), UNKNOWN);
        }
        x.build(0, 3, 0);
        x.cell(2, 1, 1);
        due("by the cell itself, not by its mirror", x.below(2, 1), 1);
        due("by the cell itself, not by its mirror", x.below(1, 2), 1);
    }

    private static void promise5Place() {
        check.says("`int place(int p, int what)`: Of a PLACE: what = 0 VALUE, 1 SET of START, 2, 3 KNOWN (NONE: not ALL IS "
                + "WELL), 4, 5 REBUILT, 6, 7 WRITTEN (NONE: not KEPT). UNKNOWN, OUTSIDE.");
        Counted x = ring();
        x.marks(0, 2, 0);
        x.marks(1, 4, 1);
        int[][] want = {
            {1, 1, 1, 7, 0, 0, 0, 0},
            {0, 0, 1, 7, 0, 2, NONE, NONE},
            {0, 0, 1, 6, 0, 6, NONE, NONE}};
        for (int p = 0; p < 3; p++) {
            for (int what = 0; what < 8; what++) {
                due("place(" + p + ", " + what + ")", x.place(p, what), want[p][what]);
            }
        }
        x.write(0, 3, 8);
        due("rebuilt from what is written", x.place(0, 4), 3);
        due("rebuilt from what is written", x.place(2, 4), 3);
        due("rebuilt from what is written", x.place(2, 5), 14);
        due("written", x.place(0, 6), 3);
        due("written", x.place(0, 7), 8);
        x.cell(0, 1, 0);
        due("not all is well: known", x.place(0, 2), NONE);
        due("not all is well: known", x.place(0, 3), NONE);
        due("not all is well: rebuilt all the same", x.place(2, 4), 3);
        due("place(3, 0)", x.place(3, 0), UNKNOWN);
        due("place(3, 9): of two the first", x.place(3, 9), UNKNOWN);
        due("place(0, 8)", x.place(0, 8), OUTSIDE);
        due("place(0, -1)", x.place(0, -1), OUTSIDE);
        for (int far : FAR) {
            due("place far", x.place(far, far), UNKNOWN);
            due("place far", x.place(0, far), OUTSIDE);
        }
    }

    private static void promise6WayAt() {
        check.says("`int wayAt(int w, int what)`: Of a WAY: what = 0 from, 1 to, 2 GIVES, 3 TAKES, 4 GATE, 5 1 it KEEPS "
                + "ORDER, 0 not, 6 WITHOUT, 7, 8 VALUE, SET that it brings by what is KNOWN (NONE: not ALL IS WELL). "
                + "UNKNOWN, OUTSIDE.");
        Counted x = ring();
        x.marks(1, 6, 5);
        x.gate(1, 1);
        x.map(1, 1, 2);
        int[][] want = {
            {0, 1, 0, 0, 0, 1, 3, 2, 7},
            {1, 2, 6, 5, 1, 1, 3, 2, 6},
            {2, 0, 0, 0, 0, 1, 2, 2, 6}};
        for (int w = 0; w < 3; w++) {
            for (int what = 0; what < 9; what++) {
                due("wayAt(" + w + ", " + what + ")", x.wayAt(w, what), want[w][what]);
            }
        }
        due("asked, nothing changes by it", x.told(2), 3);
        x.gate(1, 3);
        due("a closed way brings nothing", x.wayAt(1, 7), 0);
        due("a closed way brings nothing", x.wayAt(1, 8), 0);
        due("a closed way: without it nothing is otherwise", x.wayAt(1, 6), 0);
        x.map(0, 0, 3);
        due("out of order", x.wayAt(0, 5), 0);
        for (int what = 6; what <= 8; what++) {
            due("not all is well: wayAt(0, " + what + ")", x.wayAt(0, what), NONE);
            due("not all is well: wayAt(1, " + what + ")", x.wayAt(1, what), NONE);
        }
        due("wayAt(3, 0)", x.wayAt(3, 0), UNKNOWN);
        due("wayAt(3, 9)", x.wayAt(3, 9), UNKNOWN);
        due("wayAt(0, 9)", x.wayAt(0, 9), OUTSIDE);
        for (int far : FAR) {
            due("wayAt far", x.wayAt(far, far), UNKNOWN);
            due("wayAt far", x.wayAt(0, far), OUTSIDE);
        }
    }

    private static void promise7Mapped() {
        check.says("`int mapped(int w, int v)`: What the MAP of a WAY makes of a VALUE. UNKNOWN.");
        Counted x = ring();
        for (int v = 0; v < 4; v++) {
            due("itself at first", x.mapped(2, v), v);
        }
        x.map(2, 3, 1);
        due("mapped(2, 3)", x.mapped(2, 3), 1);
        due("another way's is as it was", x.mapped(1, 3), 3);
        due("mapped(3, 0)", x.mapped(3, 0), UNKNOWN);
        due("mapped(0, 4)", x.mapped(0, 4), UNKNOWN);
        for (int far : FAR) {
            due("mapped far", x.mapped(far, 0), UNKNOWN);
            due("mapped far", x.mapped(0, far), UNKNOWN);
        }
    }

    private static void promise8Steps() {
        check.says("`int steps(int choice)`: STEPS by a CHOICE (0 .. 2): NONE: it did not end. OUTSIDE.");
        Counted x = ring();
        // 0 0 changes; 1 changes; 2 changes, wakes 0; 0 is as it was
        due("ring: steps(0)", x.steps(0), 4);
        due("ring: steps(1)", x.steps(1), 4);
        // 2, 1 as they were; 0 wakes 1, 1 wakes 2, 2 wakes 0
        due("ring: steps(2)", x.steps(2), 6);
        due("steps(3)", x.steps(3), OUTSIDE);
        for (int far : FAR) {
            due("steps far", x.steps(far), OUTSIDE);
        }
        x.build(0, 2, 10);
        for (int choice = 0; choice < 3; choice++) {
            due("no ways: each place once", x.steps(choice), 10);
        }
        x.build(0, 2, 1);
        x.way(0, 0);
        x.map(0, 0, 1);
        x.map(0, 1, 0);
        for (int choice = 0; choice < 3; choice++) {
            due("0 and 1 in turn: it does not end", x.steps(choice), NONE);
            due("0 and 1 in turn: it does not end", x.worked(choice, 0), NONE);
        }
        // by way 0 PLACE 2 waits ahead of PLACE 1: the last is taken first by CHOICE 2
        x.build(0, 4, 3);
        x.way(0, 2);
        x.way(0, 1);
        x.way(1, 2);
        x.start(0, 1, 0);
        x.map(2, 1, 2);
        due("2 waits below 1: steps(2)", x.steps(2), 5);
        x.drop(1);
        x.way(0, 1);
        x.drop(0);
        x.way(0, 2);
        // ways now: 1 -> 2, 0 -> 1, 0 -> 2: PLACE 2 is taken ahead of PLACE 1, and once more
        due("1 waits below 2: steps(2)", x.steps(2), 6);
    }

    private static void promise9Worked() {
        check.says("`int worked(int choice, int p)`: What a CHOICE comes to at a PLACE (256 times the VALUE, and the SET); "
                + "NONE: it did not end. UNKNOWN, OUTSIDE.");
        Counted x = ring();
        x.marks(0, 2, 0);
        x.marks(1, 4, 1);
        for (int choice = 0; choice < 3; choice++) {
            due("worked(choice, 0)", x.worked(choice, 0), 256 + 7);
            due("worked(choice, 1)", x.worked(choice, 1), 256 + 7);
            due("worked(choice, 2)", x.worked(choice, 2), 256 + 6);
        }
        due("worked(3, 0)", x.worked(3, 0), OUTSIDE);
        due("worked(0, 3)", x.worked(0, 3), UNKNOWN);
        due("worked(3, 3): of two the first", x.worked(3, 3), UNKNOWN);
        for (int far : FAR) {
            due("worked far", x.worked(far, 0), OUTSIDE);
            due("worked far", x.worked(0, far), UNKNOWN);
            due("worked far", x.worked(far, far), UNKNOWN);
        }
        x.build(0, 8, 1);
        x.start(0, 7, 255);
        due("the greatest", x.worked(1, 0), 2047);
        // 1 joined 0 is 2: also a way that brings nothing is joined
        x.build(0, 3, 2);
        x.way(1, 0);
        x.gate(0, 2);
        x.start(0, 1, 0);
        due("law 2 is broken", x.cell(1, 0, 2), 2);
        due("not all is well, worked all the same", x.worked(0, 0), 512);
        due("not all is well, known is not told", x.place(0, 2), NONE);
        // START, then WAYS, rising: (1 joined 2) joined 3, where no other order comes to 2
        x.build(0, 4, 3);
        x.way(1, 0);
        x.way(2, 0);
        x.start(0, 1, 0);
        x.start(1, 2, 0);
        x.start(2, 3, 0);
        x.cell(1, 2, 3);
        x.cell(3, 3, 2);
        due("in their order", x.worked(0, 0), 512);
    }

    private static void promise10Build() {
        check.says("`int build(int order, int m, int places)`: BUILT (ORDER 0 .. 2, M 1 .. 8, PLACES 0 .. 10): how many WAYS "
                + "there were. OUTSIDE.");
        Counted x = ring();
        x.write(0, 1, 1);
        due("build: ways there were", x.build(1, 5, 3), 3);
        due("no ways", x.told(2), 0);
        due("m", x.told(0), 5);
        due("places", x.told(1), 3);
        due("starts are 0", x.place(0, 0), 0);
        due("starts are 0", x.place(0, 1), 0);
        x.way(0, 0);
        due("written is 0", x.place(0, 6), 0);
        due("written is 0", x.place(0, 7), 0);
        due("a new way's map", x.mapped(0, 4), 4);
        due("build: the least", x.build(0, 1, 0), 1);
        due("m", x.told(0), 1);
        due("build: the greatest", x.build(2, 8, 10), 0);
        due("places", x.told(1), 10);
        due("bits: m is 8", x.build(2, 1, 10), 0);
        due("bits: m is 8", x.told(0), 8);
        long before = print(x);
        int[][] outside = {{-1, 4, 4}, {3, 4, 4}, {0, 0, 4}, {0, 9, 4}, {0, 4, -1}, {0, 4, 11}, {2, 0, 4}, {2, 9, 4}};
        for (int[] o : outside) {
            due("build outside", x.build(o[0], o[1], o[2]), OUTSIDE);
        }
        for (int far : FAR) {
            due("build far", x.build(far, 4, 4), OUTSIDE);
            due("build far", x.build(0, far, 4), OUTSIDE);
            due("build far", x.build(0, 4, far), OUTSIDE);
        }
        same("refused builds change nothing", print(x), before);
    }

    private static void promise11Cell() {
        check.says("`int cell(int a, int b, int v)`: A cell of THE TABLE: a JOINED b becomes v: BROKEN then. UNKNOWN.");
        Counted x = new Counted();
        due("cell(3, 3, 0)", x.cell(3, 3, 0), 1);
        due("joined(3, 3)", x.joined(3, 3), 0);
        due("cell(3, 3, 3)", x.cell(3, 3, 3), 0);
        due("cell(1, 2, 3)", x.cell(1, 2, 3), 2);
        due("one cell only", x.joined(2, 1), 2);
        due("can be undone", x.told(12), 3);
        long before = print(x);
        due("cell(4, 0, 0)", x.cell(4, 0, 0), UNKNOWN);
        due("cell(0, 4, 0)", x.cell(0, 4, 0), UNKNOWN);
        due("cell(0, 0, 4)", x.cell(0, 0, 4), UNKNOWN);
        for (int far : FAR) {
            due("cell far", x.cell(far, 0, 0), UNKNOWN);
            due("cell far", x.cell(0, far, 0), UNKNOWN);
            due("cell far", x.cell(0, 0, far), UNKNOWN);
        }
        same("refused cells change nothing", print(x), before);
    }

    private static void promise12Start() {
        check.says("`int start(int p, int v, int set)`: START of a PLACE: 1. UNKNOWN (PLACE, VALUE), OUTSIDE (SET 0 .. 255).");
        Counted x = new Counted();
        due("start", x.start(3, 3, 255), 1);
        due("value of start", x.place(3, 0), 3);
        due("set of start", x.place(3, 1), 255);
        due("known", x.place(3, 2), 3);
        due("rebuilt", x.place(3, 5), 255);
        long before = print(x);
        due("start(4, ..)", x.start(4, 0, 0), UNKNOWN);
        due("start(0, 4, ..)", x.start(0, 4, 0), UNKNOWN);
        due("start(0, 4, 256): the first", x.start(0, 4, 256), UNKNOWN);
        due("start(4, 0, -1): the first", x.start(4, 0, -1), UNKNOWN);
        due("start(0, 0, 256)", x.start(0, 0, 256), OUTSIDE);
        for (int far : FAR) {
            due("start far", x.start(far, 0, 0), UNKNOWN);
            due("start far", x.start(0, far, 0), UNKNOWN);
            due("start far", x.start(0, 0, far), OUTSIDE);
        }
        same("refused starts change nothing", print(x), before);
    }

    private static void promise13Way() {
        check.says("`int way(int from, int to)`: A WAY comes: its number. UNKNOWN, FULL (20).");
        Counted x = new Counted();
        for (int w = 0; w < 20; w++) {
            due("way " + w, x.way(w % 4, (w + w / 4) % 4), w);
        }
        int deeds = x.told(12);
        due("the 21st way", x.way(0, 0), FULL);
        due("UNKNOWN ahead of FULL", x.way(4, 0), UNKNOWN);
        due("UNKNOWN ahead of FULL", x.way(0, 4), UNKNOWN);
        for (int far : FAR) {
            due("way far", x.way(far, 0), UNKNOWN);
            due("way far", x.way(0, far), UNKNOWN);
        }
        due("refused ways do not come", x.told(2), 20);
        due("refused ways are no deeds", x.told(12), deeds);
        x.map(19, 2, 1);
        x.marks(19, 9, 6);
        x.gate(19, 3);
        x.drop(19);
        due("a way comes where one went", x.way(3, 1), 19);
        due("as at first: map", x.mapped(19, 2), 2);
        due("as at first: gives", x.wayAt(19, 2), 0);
        due("as at first: takes", x.wayAt(19, 3), 0);
        due("as at first: gate", x.wayAt(19, 4), 0);
    }

    private static void promise14Drop() {
        check.says("`int drop(int w)`: A WAY goes: how many are left. UNKNOWN.");
        Counted x = ring();
        x.marks(1, 1, 2);
        x.marks(2, 3, 4);
        x.gate(2, 3);
        x.map(2, 0, 1);
        due("drop(0)", x.drop(0), 2);
        int[] way = {1, 2, 1, 2, 0};
        int[] later = {2, 0, 3, 4, 3};
        for (int what = 0; what < 5; what++) {
            due("one number less", x.wayAt(0, what), way[what]);
            due("one number less", x.wayAt(1, what), later[what]);
        }
        due("one number less: map", x.mapped(0, 0), 0);
        due("one number less: map", x.mapped(1, 0), 1);
        long before = print(x);
        due("drop(2)", x.drop(2), UNKNOWN);
        for (int far : FAR) {
            due("drop far", x.drop(far), UNKNOWN);
        }
        same("refused drops change nothing", print(x), before);
        due("the last goes", x.drop(1), 1);
        due("the only one goes", x.drop(0), 0);
        due("none is left", x.drop(0), UNKNOWN);
    }

    private static void promise15Map() {
        check.says("`int map(int w, int a, int v)`: The MAP of a WAY makes v of a: what it made. UNKNOWN.");
        Counted x = ring();
        due("itself", x.map(0, 1, 3), 1);
        due("what it made", x.map(0, 1, 2), 3);
        due("mapped", x.mapped(0, 1), 2);
        due("known by it", x.place(1, 2), 2);
        long before = print(x);
        due("map(3, ..)", x.map(3, 0, 0), UNKNOWN);
        due("map(0, 4, 0)", x.map(0, 4, 0), UNKNOWN);
        due("map(0, 0, 4)", x.map(0, 0, 4), UNKNOWN);
        for (int far : FAR) {
            due("map far", x.map(far, 0, 0), UNKNOWN);
            due("map far", x.map(0, far, 0), UNKNOWN);
            due("map far", x.map(0, 0, far), UNKNOWN);
        }
        same("refused maps change nothing", print(x), before);
    }

    private static void promise16Marks() {
        check.says("`int marks(int w, int gives, int takes)`: GIVES, TAKES of a WAY: 1. UNKNOWN, OUTSIDE.");
        Counted x = ring();
        due("marks", x.marks(0, 255, 255), 1);
        due("gives", x.wayAt(0, 2), 255);
        due("takes", x.wayAt(0, 3), 255);
        due("what is taken and given is there", x.place(1, 3), 255);
        due("marks", x.marks(0, 0, 255), 1);
        due("all is taken", x.place(1, 3), 0);
        long before = print(x);
        due("marks(3, ..)", x.marks(3, 0, 0), UNKNOWN);
        due("marks(3, 256, 256): the first", x.marks(3, 256, 256), UNKNOWN);
        due("marks(0, 256, 0)", x.marks(0, 256, 0), OUTSIDE);
        due("marks(0, 0, 256)", x.marks(0, 0, 256), OUTSIDE);
        for (int far : FAR) {
            due("marks far", x.marks(far, 0, 0), UNKNOWN);
            due("marks far", x.marks(0, far, 0), OUTSIDE);
            due("marks far", x.marks(0, 0, far), OUTSIDE);
        }
        same("refused marks change nothing", print(x), before);
    }

    private static void promise17Gate() {
        check.says("`int gate(int w, int v)`: GATE of a WAY: what it was. UNKNOWN.");
        Counted x = ring();
        due("gate", x.gate(0, 1), 0);
        due("what it was", x.gate(0, 2), 1);
        due("not enough is known", x.place(1, 2), 0);
        x.start(0, 2, 1);
        due("just enough is known", x.place(1, 2), 2);
        x.start(0, 3, 1);
        due("more than enough is known", x.place(1, 2), 3);
        x.build(1, 5, 2);
        x.way(0, 1);
        x.gate(0, 2);
        x.start(0, 3, 0);
        due("another one of a fan does not open it", x.place(1, 2), 0);
        x.start(0, 4, 0);
        due("the top opens it", x.place(1, 2), 4);
        long before = print(x);
        due("gate(1, 0)", x.gate(1, 0), UNKNOWN);
        due("gate(0, 5)", x.gate(0, 5), UNKNOWN);
        for (int far : FAR) {
            due("gate far", x.gate(far, 0), UNKNOWN);
            due("gate far", x.gate(0, far), UNKNOWN);
        }
        same("refused gates change nothing", print(x), before);
    }

    private static void promise18Write() {
        check.says("`int write(int p, int v, int set)`: WRITTEN for a KEPT PLACE: REFUSED AT then. UNKNOWN, OUTSIDE, NOT: it "
                + "is not KEPT.");
        Counted x = ring();
        due("too little", x.write(0, 0, 1), 0);
        due("a mark too few", x.write(0, 1, 0), 0);
        due("just so", x.write(0, 1, 1), NONE);
        due("exact", x.told(8), 1);
        due("more, and it holds", x.write(0, 3, 255), NONE);
        due("more is not exact", x.told(8), 0);
        x.way(2, 2);
        due("the second kept one is refused", x.told(7), 2);
        due("taken", x.write(2, 3, 255), NONE);
        due("what does not hold by itself", x.write(2, 3, 254), 2);
        x.start(0, 3, 0);
        due("two are refused: the least", x.write(0, 2, 255), 0);
        long before = print(x);
        due("write(3, ..)", x.write(3, 0, 0), UNKNOWN);
        due("write(0, 4, ..)", x.write(0, 4, 0), UNKNOWN);
        due("write(3, 0, 256): the first", x.write(3, 0, 256), UNKNOWN);
        due("write(1, 4, 256): the first", x.write(1, 4, 256), UNKNOWN);
        due("write(1, 0, 256): OUTSIDE ahead of NOT", x.write(1, 0, 256), OUTSIDE);
        due("write(1, 0, 0): it is not kept", x.write(1, 0, 0), NOT);
        for (int far : FAR) {
            due("write far", x.write(far, 0, 0), UNKNOWN);
            due("write far", x.write(0, far, 0), UNKNOWN);
            due("write far", x.write(0, 0, far), OUTSIDE);
        }
        same("refused writes change nothing", print(x), before);
        x.drop(3);
        due("no more kept", x.place(2, 6), NONE);
        due("no more kept: it is not written", x.write(2, 0, 0), NOT);
        x.way(2, 2);
        due("kept again: what was written stays", x.place(2, 6), 3);
        due("kept again: what was written stays", x.place(2, 7), 254);
        // a whole that holds itself up: written by anybody, taken, but more than is known
        x.build(0, 4, 1);
        x.way(0, 0);
        due("it is no less than what holds", x.write(0, 2, 8), NONE);
        due("known is less", x.place(0, 2), 0);
        due("not exact", x.told(8), 0);
    }

    private static void promise19Copy() {
        check.says("`int copy()`: What is KNOWN is WRITTEN for all KEPT ones: how many. NOT: not ALL IS WELL.");
        Counted x = ring();
        due("copy", x.copy(), 1);
        due("exact", x.told(8), 1);
        due("written", x.place(0, 6), 1);
        due("written", x.place(0, 7), 1);
        x.way(1, 1);
        x.way(2, 2);
        x.way(2, 1);
        x.start(1, 2, 4);
        due("copy of three", x.copy(), 3);
        due("exact", x.told(8), 1);
        due("written", x.place(1, 7), 5);
        x.map(0, 0, 3);
        long before = print(x);
        due("not all is well", x.copy(), NOT);
        same("a refused copy changes nothing", print(x), before);
        x.build(0, 4, 2);
        int deeds = x.told(12);
        x.way(0, 1);
        due("none is kept", x.copy(), 0);
        due("a deed all the same", x.told(12), Math.min(16, deeds + 2));
        // what was written for a place that is not kept now stays
        x.way(1, 1);
        x.write(1, 3, 3);
        x.drop(1);
        x.copy();
        x.way(1, 1);
        due("not kept then: not copied over", x.place(1, 6), 3);
    }

    private static void promise20Drift() {
        check.says("`int drift(int n)`: n times BY DRAWS (1 .. 16): WAYS. OUTSIDE.");
        Counted x = new Counted();
        x.seed(311);
        long seed = 311;
        due("drift(16)", x.drift(16), 16);
        for (int w = 0; w < 16; w++) {
            int[] want = new int[5];
            int[] of = {4, 4, 4, 8, 8};
            for (int i = 0; i < 5; i++) {
                seed = (seed * 1103515245L + 12345L) % 2147483648L;
                want[i] = (int) (seed / 65536) % of[i];
            }
            due("drawn: from", x.wayAt(w, 0), want[0]);
            due("drawn: to", x.wayAt(w, 1), want[1]);
            due("drawn: gate", x.wayAt(w, 4), want[2]);
            due("drawn: gives", x.wayAt(w, 2), 1 << want[3]);
            due("drawn: takes", x.wayAt(w, 3), 1 << want[4]);
            due("drawn: map", x.mapped(w, 3), 3);
        }
        due("the seed went on", x.seed((int) seed), (int) seed);
        x.keep(0);
        due("while there is room", x.drift(16), 20);
        due("times that had room can be undone", x.told(12), 4);
        int then = x.seed(5);
        for (int i = 0; i < 20; i++) {
            seed = (seed * 1103515245L + 12345L) % 2147483648L;
        }
        due("no room, no draw", then, (int) seed);
        due("full", x.drift(1), 20);
        due("full: the seed stays", x.seed(5), 5);
        due("full: no deed", x.told(12), 4);
        x.build(0, 4, 0);
        due("no places", x.drift(3), 0);
        due("no places: the seed stays", x.seed(5), 5);
        due("no places: no deed", x.told(12), 5);
        long before = print(x);
        due("drift(0)", x.drift(0), OUTSIDE);
        due("drift(17)", x.drift(17), OUTSIDE);
        for (int far : FAR) {
            due("drift far", x.drift(far), OUTSIDE);
        }
        same("refused drifts change nothing", print(x), before);
        due("refused drifts draw nothing", x.seed(2147483647), 5);
        x.build(0, 3, 7);
        due("from the greatest seed", x.drift(1), 1);
        long one = (2147483647L * 1103515245L + 12345L) % 2147483648L;
        due("from the greatest seed", x.wayAt(0, 0), (int) (one / 65536 % 7));
    }

    private static void promise21Undo() {
        check.says("`int undo(int n)`: The n latest (1 .. 16) are undone: WAYS. OUTSIDE, NOT: not so many.");
        Counted x = new Counted();
        for (int k = 0; k < 20; k++) {
            x.start(0, k % 4, k);
        }
        due("16 at most are kept", x.told(12), 16);
        due("undo(1)", x.undo(1), 0);
        due("as ahead of it", x.place(0, 1), 18);
        due("one less", x.told(12), 15);
        due("undo(16): not so many", x.undo(16), NOT);
        due("undo(3)", x.undo(3), 0);
        due("as ahead of them", x.place(0, 1), 15);
        x.start(0, 1, 99);
        due("a deed after it", x.told(12), 13);
        due("undo(13)", x.undo(13), 0);
        due("as ahead of them all", x.place(0, 1), 3);
        due("none is left", x.told(12), 0);
        due("none is left", x.undo(1), NOT);
        due("undo(0)", x.undo(0), OUTSIDE);
        due("undo(17)", x.undo(17), OUTSIDE);
        for (int far : FAR) {
            due("undo far", x.undo(far), OUTSIDE);
        }
        x.seed(77);
        x.note(0, 3, 3);
        x.drift(3);
        int seed = x.seed(1);
        x.seed(seed);
        due("undo of draws, one by one: WAYS", x.undo(2), 1);
        due("the seed stays", x.seed(seed), seed);
        due("the book stays", x.told(10), 1);
        for (int k = 0; k < 16; k++) {
            x.start(1, 0, k);
        }
        due("all 16", x.undo(16), 1);
        due("all 16", x.place(1, 1), 0);
    }

    private static void promise21UndoesEachDeed() {
        check.says("`int undo(int n)`: The n latest (1 .. 16) are undone: WAYS. OUTSIDE, NOT: not so many.");
        for (int deed = 0; deed < 11; deed++) {
            Counted x = ring();
            x.cell(1, 2, 2);
            x.copy();
            x.write(0, 2, 5);
            x.keep(0);
            long before = printWeb(x);
            doDeed(x, deed);
            due("deed " + deed + " can be undone", x.told(12), 1);
            if (printWeb(x) == before) {
                due("deed " + deed + " changes something", 0, 1);
            }
            x.undo(1);
            same("deed " + deed + " is undone", printWeb(x), before);
            due("deed " + deed + " is gone", x.told(12), 0);
        }
    }

    private static void doDeed(Counted x, int deed) {
        switch (deed) {
            case 0 -> x.build(2, 8, 10);
            case 1 -> x.cell(2, 1, 1);
            case 2 -> x.start(1, 3, 7);
            case 3 -> x.way(0, 0);
            case 4 -> x.drop(0);
            case 5 -> x.map(1, 2, 3);
            case 6 -> x.marks(2, 1, 128);
            case 7 -> x.gate(0, 2);
            case 8 -> x.write(0, 3, 255);
            case 9 -> x.copy();
            default -> x.drift(1);
        }
    }

    private static void promise22Note() {
        check.says("`int note(int p, int v, int set)`: An entry behind THE BOOK: how many. UNKNOWN (PLACE, VALUE), OUTSIDE, "
                + "FULL (20).");
        Counted x = ring();
        for (int k = 1; k <= 20; k++) {
            due("note " + k, x.note(k % 3, 1, 1), k);
        }
        due("all are so", x.told(11), NONE);
        due("the 21st", x.note(0, 0, 0), FULL);
        due("UNKNOWN ahead of FULL", x.note(3, 0, 0), UNKNOWN);
        due("OUTSIDE ahead of FULL", x.note(0, 0, 256), OUTSIDE);
        due("UNKNOWN ahead of OUTSIDE", x.note(0, 4, 256), UNKNOWN);
        for (int far : FAR) {
            due("note far", x.note(far, 0, 0), UNKNOWN);
            due("note far", x.note(0, far, 0), UNKNOWN);
            due("note far", x.note(0, 0, far), OUTSIDE);
        }
        due("refused notes change nothing", x.told(10), 20);
        due("no deed", x.told(12), 5);
        x.start(1, 1, 2);
        due("the first that is otherwise", x.told(11), 0);
        x.undo(1);
        due("so again", x.told(11), NONE);
        x.build(0, 4, 2);
        x.start(0, 1, 1);
        x.start(1, 1, 1);
        due("a place that there is no more: the second entry", x.told(11), 1);
        x.tear();
        x.note(1, 1, 1);
        x.note(0, 1, 1);
        x.build(0, 4, 1);
        x.start(0, 1, 1);
        due("a place that there is no more", x.told(11), 0);
    }

    private static void promise23Tear() {
        check.says("`int tear()`: No BOOK: how much it had.");
        Counted x = ring();
        x.note(0, 0, 0);
        x.note(1, 0, 0);
        due("wrong", x.told(11), 0);
        due("tear", x.tear(), 2);
        due("no book", x.told(10), 0);
        due("no book", x.told(11), NONE);
        due("tear again", x.tear(), 0);
        due("no deed", x.told(12), 5);
        due("a book anew", x.note(0, 1, 1), 1);
        due("a book anew", x.told(11), NONE);
    }

    private static void promise24Seed() {
        check.says("`int seed(int v)`: THE SEED becomes v (0 .. 2147483647): what it was. OUTSIDE.");
        Counted x = new Counted();
        due("seed", x.seed(2147483647), 0);
        due("what it was", x.seed(7), 2147483647);
        due("seed(-1)", x.seed(-1), OUTSIDE);
        due("seed far", x.seed(Integer.MIN_VALUE), OUTSIDE);
        due("refused seeds change nothing", x.seed(0), 7);
        due("no deed", x.told(12), 0);
    }

    private static void promise25Keep() {
        check.says("`int keep(int i)`: IMAGE i becomes what is so (nothing can be undone then): 1. UNKNOWN.");
        Counted x = ring();
        due("keep", x.keep(1), 1);
        due("nothing can be undone then", x.told(12), 0);
        due("nothing can be undone then", x.undo(1), NOT);
        due("the other image is not kept", x.goBack(0), NOT);
        x.way(0, 2);
        due("since the image", x.told(12), 1);
        long before = print(x);
        due("keep(-1)", x.keep(-1), UNKNOWN);
        due("keep(2)", x.keep(2), UNKNOWN);
        for (int far : FAR) {
            due("keep far", x.keep(far), UNKNOWN);
        }
        same("refused keeps change nothing", print(x), before);
        due("keep over it", x.keep(1), 1);
        x.drop(0);
        due("goBack", x.goBack(1), 1);
        due("the later image", x.told(2), 4);
    }

    private static void promise26GoBack() {
        check.says("`int goBack(int i)`: What is so becomes IMAGE i (nothing can be undone then): 1. UNKNOWN, NOT: it was "
                + "not kept.");
        Counted x = ring();
        x.seed(9);
        x.write(0, 2, 3);
        x.note(0, 1, 1);
        long first = printWeb(x);
        x.keep(0);
        x.build(1, 6, 5);
        x.seed(10);
        x.drift(4);
        long second = printWeb(x);
        x.keep(1);
        int seed = x.seed(3);
        x.note(0, 2, 2);
        due("goBack(0)", x.goBack(0), 1);
        same("as image 0", printWeb(x), first);
        due("image 0: the seed", x.seed(12), 9);
        due("the book stays", x.told(10), 2);
        x.start(0, 0, 0);
        due("a deed", x.told(12), 1);
        due("goBack(1)", x.goBack(1), 1);
        due("nothing can be undone then", x.told(12), 0);
        same("as image 1", printWeb(x), second);
        due("image 1: the seed", x.seed(12), seed);
        x.start(0, 1, 1);
        due("a deed behind an image does not change it", x.goBack(1), 1);
        due("as image 1 again", x.place(0, 0), 0);
        due("image 1 again: the seed", x.seed(12), seed);
        refusedGoBack();
    }

    private static void refusedGoBack() {
        Counted x = ring();
        x.keep(0);
        due("goBack(-1)", x.goBack(-1), UNKNOWN);
        due("goBack(2)", x.goBack(2), UNKNOWN);
        for (int far : FAR) {
            due("goBack far", x.goBack(far), UNKNOWN);
        }
        x.way(0, 0);
        long before = print(x);
        due("goBack far", x.goBack(7), UNKNOWN);
        same("a refused goBack changes nothing", print(x), before);
    }

    private static void emptyWeb() {
        check.says("PLACES (0 .. 10; 4 at first)");
        Counted x = new Counted();
        x.build(0, 1, 0);
        int[] told = {1, 0, 0, 0, NONE, 1, 0, NONE, 1, 0, 0, NONE, 1};
        for (int what = 0; what < told.length; what++) {
            due("empty: told(" + what + ")", x.told(what), told[what]);
        }
        for (int choice = 0; choice < 3; choice++) {
            due("empty: steps", x.steps(choice), 0);
            due("empty: worked", x.worked(choice, 0), UNKNOWN);
        }
        due("empty: place", x.place(0, 0), UNKNOWN);
        due("empty: way", x.way(0, 0), UNKNOWN);
        due("empty: wayAt", x.wayAt(0, 0), UNKNOWN);
        due("empty: start", x.start(0, 0, 0), UNKNOWN);
        due("empty: write", x.write(0, 0, 0), UNKNOWN);
        due("empty: note", x.note(0, 0, 0), UNKNOWN);
        due("empty: copy", x.copy(), 0);
        due("empty: drift", x.drift(16), 0);
        due("empty: joined", x.joined(0, 0), 0);
        due("empty: cell", x.cell(0, 0, 0), 0);
    }

    /** 10 PLACES, 20 WAYS: each PLACE to itself and to the next, each VALUE and mark found on the way round. */
    private static void fullWeb() {
        check.says("WAYS (20 at most; none at first)");
        Counted x = new Counted();
        x.build(0, 8, 10);
        for (int p = 0; p < 10; p++) {
            x.way(p, (p + 1) % 10);
            x.way(p, p);
        }
        for (int p = 0; p < 8; p++) {
            x.marks(2 * p, 1 << p, 0);
        }
        for (int v = 0; v < 7; v++) {
            x.map(0, v, v + 1);
        }
        due("full: all are kept", x.told(6), 1023);
        due("full: refused at the first that lacks", x.told(7), 1);
        for (int p = 0; p < 10; p++) {
            due("full: value", x.place(p, 2), 7);
            due("full: set", x.place(p, 3), 255);
            for (int choice = 0; choice < 3; choice++) {
                due("full: worked", x.worked(choice, p), 7 * 256 + 255);
            }
        }
        int round = 0;
        for (int p = 0; p < 10; p++) {
            round |= 1 << 2 * p;
            due("full: without a way of the ring", x.wayAt(2 * p, 6), 10);
            due("full: without a way to itself", x.wayAt(2 * p + 1, 6), 0);
        }
        due("full: the ring matters", x.told(9), round);
        due("full: copy", x.copy(), 10);
        due("full: exact", x.told(8), 1);
        due("full: the last way goes", x.drop(19), 19);
        due("full: the last place is not kept now", x.told(6), 511);
        due("full: exact still", x.told(8), 1);
    }
}
