import java.util.ArrayList;
import java.util.List;

/** A state to begin a test from, made anew for each use; what is true of it is known here without asking the class. */
final class Situation {
    static final int SEED = 4711;

    final String name;
    int order = 0, m = 4, places = 4, ways = 0, deeds = 0, entries = 0;
    /** The IMAGES that are kept; at least one, unless the object is new. */
    int images = 1;
    boolean isNew = false, breaksLaw = false, breaksOrder = false;

    Situation(String name) {
        this.name = name;
    }

    static Situation newObject() {
        Situation s = new Situation("a new object");
        s.isNew = true;
        s.images = 0;
        return s;
    }

    Situation web(int ofOrder, int ofM, int ofPlaces, int ofWays) {
        order = ofOrder;
        m = ofM;
        places = ofPlaces;
        ways = ofWays;
        return this;
    }

    Situation with(int ofDeeds, int ofEntries, int ofImages) {
        deeds = ofDeeds;
        entries = ofEntries;
        images = ofImages;
        return this;
    }

    private int from(int w) {
        return w % places;
    }

    private int to(int w) {
        return (w + 1 + w / places) % places;
    }

    boolean isKept(int p) {
        for (int w = 0; w < ways; w++) {
            if (to(w) == p && from(w) >= p) {
                return true;
            }
        }
        return false;
    }

    boolean isWell() {
        return !breaksLaw && !breaksOrder;
    }

    int undoable() {
        return Math.min(16, deeds);
    }

    Counted make() {
        Counted x = new Counted();
        if (isNew) {
            return x;
        }
        x.seed(SEED);
        if (images == 3) {
            makeFirstImage(x);
        }
        x.build(order, m, places);
        if (places > 0) {
            makeFacts(x);
        }
        if (breaksLaw) {
            x.cell(m - 1, m - 1, 0);
        }
        if (breaksOrder) {
            x.map(0, 0, m - 1);
            x.map(0, m - 1, 0);
        }
        x.keep(images == 1 ? 0 : 1);
        for (int k = 0; k < deeds; k++) {
            makeDeed(x, k);
        }
        return x;
    }

    private void makeFirstImage(Counted x) {
        x.build(1, 3, 2);
        x.way(1, 0);
        x.write(0, 2, 9);
        x.start(1, 1, 4);
        x.seed(99);
        x.keep(0);
        x.seed(SEED);
    }

    private void makeFacts(Counted x) {
        // what is WRITTEN for the last PLACE stays behind, though it is not KEPT by this WAY any more
        x.way(places - 1, places - 1);
        x.write(places - 1, m - 1, 77);
        x.drop(0);
        for (int w = 0; w < ways; w++) {
            x.way(from(w), to(w));
        }
        if (ways > 0) {
            x.marks(ways - 1, 6, 9);
            x.gate(ways - 1, m - 1);
            x.map(ways - 1, Math.max(0, m - 2), m - 1);
        }
        x.start(0, m - 1, 3);
        for (int k = 0; k < entries; k++) {
            x.note(k % places, m - 1, 10 + k % places);
        }
    }

    /** A deed that can be told from the others when it is undone, where there is a PLACE to tell it at. */
    private void makeDeed(Counted x, int k) {
        if (places > 0) {
            x.start(places - 1, k % m, k);
        } else {
            x.cell(0, 0, 0);
        }
    }

    // ---- all that can be seen of it, now or after other calls; each look on an object of its own

    static final int LOOKS = 9;

    List<Integer> look(int which, Counted x) {
        List<Integer> seen = new ArrayList<>();
        switch (which) {
            case 0 -> lookAtWhole(x, seen);
            case 1 -> lookAtTable(x, seen);
            case 2 -> lookAtPlaces(x, seen);
            case 3 -> lookAtWays(x, seen);
            case 4 -> lookAtMaps(x, seen);
            case 5 -> lookAtPast(x, seen);
            case 6 -> lookAtWritten(x, seen);
            case 7 -> lookAtBook(x, seen);
            default -> lookAtImages(x, seen);
        }
        return seen;
    }

    private void lookAtWhole(Counted x, List<Integer> seen) {
        for (int what = 0; what <= 12; what++) {
            seen.add(x.told(what));
        }
        for (int choice = 0; choice < 3; choice++) {
            seen.add(x.steps(choice));
            for (int p = 0; p < places; p++) {
                seen.add(x.worked(choice, p));
            }
        }
        seen.add(x.seed(0));
    }

    private void lookAtTable(Counted x, List<Integer> seen) {
        for (int a = 0; a < m; a++) {
            for (int b = 0; b < m; b++) {
                seen.add(x.joined(a, b));
            }
        }
    }

    private void lookAtPlaces(Counted x, List<Integer> seen) {
        for (int p = 0; p < places; p++) {
            for (int what = 0; what <= 7; what++) {
                seen.add(x.place(p, what));
            }
        }
    }

    private void lookAtWays(Counted x, List<Integer> seen) {
        for (int w = 0; w < ways; w++) {
            for (int what = 0; what <= 8; what++) {
                seen.add(x.wayAt(w, what));
            }
        }
    }

    private void lookAtMaps(Counted x, List<Integer> seen) {
        for (int w = 0; w < ways; w++) {
            for (int v = 0; v < m; v++) {
                seen.add(x.mapped(w, v));
            }
        }
    }

    private void lookAtPast(Counted x, List<Integer> seen) {
        for (int k = 0; k <= 16; k++) {
            seen.add(x.undo(1));
            seen.add(x.told(0));
            seen.add(x.told(1));
            seen.add(x.told(3));
            seen.add(x.told(6));
            seen.add(x.told(7));
            seen.add(x.told(12));
            seen.add(x.place(0, 0));
            seen.add(x.place(places - 1, 0));
            seen.add(x.place(places - 1, 1));
            seen.add(x.wayAt(0, 1));
        }
        seen.add(x.drift(1));
        seen.add(x.seed(0));
    }

    /** Also for PLACES that are not KEPT: WAYS that keep each of them show it. */
    private void lookAtWritten(Counted x, List<Integer> seen) {
        for (int w = 0; w < ways; w++) {
            seen.add(x.drop(0));
        }
        for (int p = 0; p < places; p++) {
            seen.add(x.way(p, p));
            seen.add(x.place(p, 6));
            seen.add(x.place(p, 7));
        }
    }

    /** THE BOOK is made right, then one PLACE at a time otherwise. */
    private void lookAtBook(Counted x, List<Integer> seen) {
        seen.add(x.told(10));
        x.build(0, 8, 10);
        for (int p = 0; p < 10; p++) {
            x.start(p, m - 1, 10 + p);
        }
        seen.add(x.told(11));
        for (int p = 0; p < 10; p++) {
            x.start(p, m - 1, 11 + p);
            seen.add(x.told(11));
            x.start(p, 7 - m + 1, 10 + p);
            seen.add(x.told(11));
            x.start(p, m - 1, 10 + p);
        }
        seen.add(x.tear());
    }

    private void lookAtImages(Counted x, List<Integer> seen) {
        for (int i = 0; i <= 1; i++) {
            seen.add(x.goBack(i));
            for (int what = 0; what <= 12; what++) {
                seen.add(x.told(what));
            }
            for (int what = 0; what <= 7; what++) {
                seen.add(x.place(0, what));
                seen.add(x.place(places - 1, what));
                seen.add(x.wayAt(0, what));
                seen.add(x.wayAt(ways - 1, what));
            }
            seen.add(x.joined(m - 1, m - 1));
            seen.add(x.seed(i));
        }
    }
}
