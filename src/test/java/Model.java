import java.util.ArrayDeque;
import java.util.ArrayList;
import java.util.Arrays;
import java.util.Deque;
import java.util.List;

/**
 * The document once more, written slowly and another way than the class: the tests hold the one against the other.
 * Nothing is packed, nothing is used again, and what is KNOWN is found in whole rounds, not PLACE by PLACE.
 */
final class Model {
    static final int NONE = -1, UNKNOWN = -1000000001, OUTSIDE = -1000000002, NOT = -1000000003, FULL = -1000000004;

    record Fact(int value, int set) {
        static final Fact NOTHING = new Fact(0, 0);
    }

    static final class Way {
        int from, to, gives, takes, gate;
        int[] map = {0, 1, 2, 3, 4, 5, 6, 7};

        Way(int from, int to) {
            this.from = from;
            this.to = to;
        }

        Way twin() {
            Way twin = new Way(from, to);
            twin.gives = gives;
            twin.takes = takes;
            twin.gate = gate;
            twin.map = map.clone();
            return twin;
        }
    }

    static final class State {
        int m, places;
        int[][] table;
        List<Way> ways = new ArrayList<>();
        List<Fact> start = new ArrayList<>(), written = new ArrayList<>();

        State(int order, int m, int places) {
            this.m = order == 2 ? 8 : m;
            this.places = places;
            table = new int[this.m][this.m];
            for (int a = 0; a < this.m; a++) {
                for (int b = 0; b < this.m; b++) {
                    table[a][b] = switch (order) {
                        case 0 -> a > b ? a : b;
                        case 1 -> a == 0 ? b : b == 0 ? a : a == b ? a : this.m - 1;
                        default -> a | b;
                    };
                }
            }
            for (int p = 0; p < places; p++) {
                start.add(Fact.NOTHING);
                written.add(Fact.NOTHING);
            }
        }

        State twin() {
            State twin = new State(0, m, places);
            for (int a = 0; a < m; a++) {
                twin.table[a] = table[a].clone();
            }
            for (Way way : ways) {
                twin.ways.add(way.twin());
            }
            twin.start = new ArrayList<>(start);
            twin.written = new ArrayList<>(written);
            return twin;
        }

        State withoutWay(int w) {
            State twin = twin();
            twin.ways.remove(w);
            return twin;
        }

        boolean below(int a, int b) {
            return table[a][b] == b;
        }

        boolean noMore(Fact one, Fact other) {
            return below(one.value, other.value) && (one.set | other.set) == other.set;
        }

        int broken() {
            int least = 5;
            for (int a = 0; a < m; a++) {
                least = table[0][a] == a ? least : Math.min(least, 4);
                least = table[a][a] == a ? least : Math.min(least, 1);
                for (int b = 0; b < m; b++) {
                    least = table[a][b] == table[b][a] ? least : Math.min(least, 2);
                    for (int c = 0; c < m; c++) {
                        least = table[table[a][b]][c] == table[a][table[b][c]] ? least : Math.min(least, 3);
                    }
                }
            }
            return least == 5 ? 0 : least;
        }

        boolean keepsOrder(Way way) {
            for (int a = 0; a < m; a++) {
                for (int b = 0; b < m; b++) {
                    if (below(a, b) && !below(way.map[a], way.map[b])) {
                        return false;
                    }
                }
            }
            return true;
        }

        int firstOutOfOrder() {
            for (Way way : ways) {
                if (!keepsOrder(way)) {
                    return ways.indexOf(way);
                }
            }
            return NONE;
        }

        boolean well() {
            return broken() == 0 && firstOutOfOrder() == NONE;
        }

        Fact brings(Way way, List<Fact> facts) {
            Fact there = facts.get(way.from);
            if (!below(way.gate, there.value)) {
                return Fact.NOTHING;
            }
            int set = there.set;
            for (int k = 0; k < 8; k++) {
                if ((way.takes >> k & 1) == 1) {
                    set &= 255 - (1 << k);
                }
            }
            return new Fact(way.map[there.value], set | way.gives);
        }

        Fact together(int p, List<Fact> facts) {
            Fact all = start.get(p);
            for (Way way : ways) {
                if (way.to == p) {
                    Fact more = brings(way, facts);
                    all = new Fact(table[all.value][more.value], all.set | more.set);
                }
            }
            return all;
        }

        /** Whole rounds from nothing on, all PLACES at once. */
        List<Fact> known() {
            List<Fact> facts = new ArrayList<>();
            for (int p = 0; p < places; p++) {
                facts.add(Fact.NOTHING);
            }
            while (true) {
                List<Fact> next = new ArrayList<>();
                for (int p = 0; p < places; p++) {
                    next.add(together(p, facts));
                }
                if (next.equals(facts)) {
                    return facts;
                }
                facts = next;
            }
        }

        int without(int w) {
            if (!well()) {
                return NONE;
            }
            List<Fact> with = known(), rest = withoutWay(w).known();
            int count = 0;
            for (int p = 0; p < places; p++) {
                count += with.get(p).equals(rest.get(p)) ? 0 : 1;
            }
            return count;
        }

        boolean kept(int p) {
            return ways.stream().anyMatch(way -> way.to == p && way.from >= p);
        }

        List<Fact> rebuilt() {
            List<Fact> facts = new ArrayList<>();
            for (int p = 0; p < places; p++) {
                facts.add(kept(p) ? written.get(p) : together(p, facts));
            }
            return facts;
        }

        int refusedAt() {
            List<Fact> facts = rebuilt();
            for (int p = 0; p < places; p++) {
                if (kept(p) && !noMore(together(p, facts), written.get(p))) {
                    return p;
                }
            }
            return NONE;
        }

        /** STEPS, or NONE if there are more than so many; what it came to is left in facts. */
        int work(int choice, int most, List<Fact> facts) {
            List<Integer> waiting = new ArrayList<>();
            facts.clear();
            for (int p = 0; p < places; p++) {
                facts.add(Fact.NOTHING);
                waiting.add(p);
            }
            int steps = 0;
            while (!waiting.isEmpty()) {
                if (steps == most) {
                    return NONE;
                }
                steps++;
                Integer next = switch (choice) {
                    case 0 -> waiting.stream().min(Integer::compare).get();
                    case 1 -> waiting.get(0);
                    default -> waiting.get(waiting.size() - 1);
                };
                waiting.remove(next);
                Fact got = together(next, facts);
                if (!got.equals(facts.set(next, got))) {
                    for (Way way : ways) {
                        if (way.from == next && !waiting.contains(way.to)) {
                            waiting.add(way.to);
                        }
                    }
                }
            }
            return steps;
        }
    }

    record Entry(int place, Fact fact) {
    }

    private State now = new State(0, 4, 4);
    private long seed = 0;
    private final Deque<State> past = new ArrayDeque<>();
    private final List<Entry> book = new ArrayList<>();
    private final State[] images = new State[2];
    private final long[] seeds = new long[2];

    State state() {
        return now;
    }

    private boolean noPlace(int p) {
        return p < 0 || p >= now.places;
    }

    private boolean noValue(int... values) {
        return Arrays.stream(values).anyMatch(v -> v < 0 || v >= now.m);
    }

    private boolean noWay(int w) {
        return w < 0 || w >= now.ways.size();
    }

    private static boolean noSet(int set) {
        return set < 0 || set > 255;
    }

    private void deed() {
        past.addLast(now.twin());
        if (past.size() > 16) {
            past.removeFirst();
        }
    }

    int told(int what) {
        switch (what) {
            case 0: return now.m;
            case 1: return now.places;
            case 2: return now.ways.size();
            case 3: return now.broken();
            case 4: return now.firstOutOfOrder();
            case 5: return now.well() ? 1 : 0;
            case 6: {
                int kept = 0;
                for (int p = 0; p < now.places; p++) {
                    kept += now.kept(p) ? 1 << p : 0;
                }
                return kept;
            }
            case 7: return now.refusedAt();
            case 8: return now.well() && now.refusedAt() == NONE && now.rebuilt().equals(now.known()) ? 1 : 0;
            case 9: {
                int matter = 0;
                for (int w = 0; w < now.ways.size(); w++) {
                    matter += now.without(w) > 0 ? 1 << w : 0;
                }
                return now.well() ? matter : NONE;
            }
            case 10: return book.size();
            case 11: {
                for (int i = 0; i < book.size(); i++) {
                    Entry entry = book.get(i);
                    if (!now.well() || noPlace(entry.place) || !now.known().get(entry.place).equals(entry.fact)) {
                        return i;
                    }
                }
                return NONE;
            }
            case 12: return past.size();
            default: return OUTSIDE;
        }
    }

    int joined(int a, int b) {
        return noValue(a, b) ? UNKNOWN : now.table[a][b];
    }

    int below(int a, int b) {
        return noValue(a, b) ? UNKNOWN : now.below(a, b) ? 1 : 0;
    }

    int place(int p, int what) {
        if (noPlace(p)) {
            return UNKNOWN;
        }
        if (what < 0 || what > 7) {
            return OUTSIDE;
        }
        if (what / 2 == 1 && !now.well() || what / 2 == 3 && !now.kept(p)) {
            return NONE;
        }
        List<Fact> facts = switch (what / 2) {
            case 0 -> now.start;
            case 1 -> now.known();
            case 2 -> now.rebuilt();
            default -> now.written;
        };
        return what % 2 == 0 ? facts.get(p).value : facts.get(p).set;
    }

    int wayAt(int w, int what) {
        if (noWay(w)) {
            return UNKNOWN;
        }
        Way way = now.ways.get(w);
        switch (what) {
            case 0: return way.from;
            case 1: return way.to;
            case 2: return way.gives;
            case 3: return way.takes;
            case 4: return way.gate;
            case 5: return now.keepsOrder(way) ? 1 : 0;
            case 6: return now.without(w);
            case 7: return now.well() ? now.brings(way, now.known()).value : NONE;
            case 8: return now.well() ? now.brings(way, now.known()).set : NONE;
            default: return OUTSIDE;
        }
    }

    int mapped(int w, int v) {
        return noWay(w) || noValue(v) ? UNKNOWN : now.ways.get(w).map[v];
    }

    int steps(int choice) {
        return choice < 0 || choice > 2 ? OUTSIDE : now.work(choice, 2000, new ArrayList<>());
    }

    int worked(int choice, int p) {
        if (noPlace(p)) {
            return UNKNOWN;
        }
        if (choice < 0 || choice > 2) {
            return OUTSIDE;
        }
        List<Fact> facts = new ArrayList<>();
        return now.work(choice, 2000, facts) == NONE ? NONE : 256 * facts.get(p).value + facts.get(p).set;
    }

    int build(int order, int m, int places) {
        if (order < 0 || order > 2 || m < 1 || m > 8 || places < 0 || places > 10) {
            return OUTSIDE;
        }
        deed();
        int before = now.ways.size();
        now = new State(order, m, places);
        return before;
    }

    int cell(int a, int b, int v) {
        if (noValue(a, b, v)) {
            return UNKNOWN;
        }
        deed();
        now.table[a][b] = v;
        return now.broken();
    }

    int start(int p, int v, int set) {
        if (noPlace(p) || noValue(v)) {
            return UNKNOWN;
        }
        if (noSet(set)) {
            return OUTSIDE;
        }
        deed();
        now.start.set(p, new Fact(v, set));
        return 1;
    }

    int way(int from, int to) {
        if (noPlace(from) || noPlace(to)) {
            return UNKNOWN;
        }
        if (now.ways.size() == 20) {
            return FULL;
        }
        deed();
        now.ways.add(new Way(from, to));
        return now.ways.size() - 1;
    }

    int drop(int w) {
        if (noWay(w)) {
            return UNKNOWN;
        }
        deed();
        now.ways.remove(w);
        return now.ways.size();
    }

    int map(int w, int a, int v) {
        if (noWay(w) || noValue(a, v)) {
            return UNKNOWN;
        }
        deed();
        int before = now.ways.get(w).map[a];
        now.ways.get(w).map[a] = v;
        return before;
    }

    int marks(int w, int gives, int takes) {
        if (noWay(w)) {
            return UNKNOWN;
        }
        if (noSet(gives) || noSet(takes)) {
            return OUTSIDE;
        }
        deed();
        now.ways.get(w).gives = gives;
        now.ways.get(w).takes = takes;
        return 1;
    }

    int gate(int w, int v) {
        if (noWay(w) || noValue(v)) {
            return UNKNOWN;
        }
        deed();
        int before = now.ways.get(w).gate;
        now.ways.get(w).gate = v;
        return before;
    }

    int write(int p, int v, int set) {
        if (noPlace(p) || noValue(v)) {
            return UNKNOWN;
        }
        if (noSet(set)) {
            return OUTSIDE;
        }
        if (!now.kept(p)) {
            return NOT;
        }
        deed();
        now.written.set(p, new Fact(v, set));
        return now.refusedAt();
    }

    int copy() {
        if (!now.well()) {
            return NOT;
        }
        deed();
        List<Fact> known = now.known();
        int count = 0;
        for (int p = 0; p < now.places; p++) {
            if (now.kept(p)) {
                now.written.set(p, known.get(p));
                count++;
            }
        }
        return count;
    }

    private int draw(int n) {
        seed = (seed * 1103515245L + 12345L) % (1L << 31);
        return (int) (seed / 65536 % n);
    }

    int drift(int n) {
        if (n < 1 || n > 16) {
            return OUTSIDE;
        }
        for (int i = 0; i < n; i++) {
            if (now.places > 0 && now.ways.size() < 20) {
                deed();
                int from = draw(now.places), to = draw(now.places);
                Way way = new Way(from, to);
                way.gate = draw(now.m);
                way.gives = 1 << draw(8);
                way.takes = 1 << draw(8);
                now.ways.add(way);
            }
        }
        return now.ways.size();
    }

    int undo(int n) {
        if (n < 1 || n > 16) {
            return OUTSIDE;
        }
        if (past.size() < n) {
            return NOT;
        }
        for (int i = 0; i < n; i++) {
            now = past.removeLast();
        }
        return now.ways.size();
    }

    int note(int p, int v, int set) {
        if (noPlace(p) || noValue(v)) {
            return UNKNOWN;
        }
        if (noSet(set)) {
            return OUTSIDE;
        }
        if (book.size() == 20) {
            return FULL;
        }
        book.add(new Entry(p, new Fact(v, set)));
        return book.size();
    }

    int tear() {
        int before = book.size();
        book.clear();
        return before;
    }

    int seed(int v) {
        if (v < 0) {
            return OUTSIDE;
        }
        int before = (int) seed;
        seed = v;
        return before;
    }

    int keep(int i) {
        if (i < 0 || i > 1) {
            return UNKNOWN;
        }
        images[i] = now.twin();
        seeds[i] = seed;
        past.clear();
        return 1;
    }

    int goBack(int i) {
        if (i < 0 || i > 1) {
            return UNKNOWN;
        }
        if (images[i] == null) {
            return NOT;
        }
        now = images[i].twin();
        seed = seeds[i];
        past.clear();
        return 1;
    }
}
