/**
 * What is known at each place of a web, found as the least that holds.
 *
 * A VALUE and a SET of marks are carried together as one number, a fact: 256 times the VALUE, and the SET
 * (as worked() answers it). All rows are made once with the object: no call makes another.
 */
public final class FixedFacts {
    public static final int NONE = -1, UNKNOWN = -1000000001, OUTSIDE = -1000000002, NOT = -1000000003, FULL = -1000000004;

    private static final int MOST_VALUES = 8;
    private static final int MOST_PLACES = 10;
    private static final int MOST_WAYS = 20;
    private static final int MOST_ENTRIES = 20;
    private static final int MOST_UNDONE = 16;
    private static final int MOST_DRAWN = 16;
    private static final int MOST_STEPS = 2000;
    private static final int MARKS = 8;
    private static final int ALL_MARKS = 255;
    private static final int FACT = 256;

    private static final int CHAIN = 0, FAN = 1, BITS = 2;
    private static final int LEAST = 0, LONGEST = 1, LAST = 2;

    private final Web web = new Web();
    private final Past past = new Past();
    private final Image firstImage = new Image();
    private final Image secondImage = new Image();
    private final Book book = new Book();
    private final Work known = new Work();
    private final Work trial = new Work();
    private final Judge judge = new Judge();
    private int drawn;

    public FixedFacts() {
        web.becomeNew(CHAIN, 4, 4);
    }

    // ---- what there is

    public int told(int what) {
        switch (what) {
            case 0: return web.values;
            case 1: return web.places;
            case 2: return web.ways;
            case 3: return web.brokenLaw();
            case 4: return web.firstOutOfOrder();
            case 5: return web.isWell() ? 1 : 0;
            case 6: return web.keptPlaces();
            case 7: return judge.refusedAt(web);
            case 8: return isExact() ? 1 : 0;
            case 9: return waysThatMatter();
            case 10: return book.entries;
            case 11: return firstWrongEntry();
            case 12: return past.kept;
            default: return OUTSIDE;
        }
    }

    public int joined(int a, int b) {
        if (!web.hasValue(a) || !web.hasValue(b)) {
            return UNKNOWN;
        }
        return web.join(a, b);
    }

    public int below(int a, int b) {
        if (!web.hasValue(a) || !web.hasValue(b)) {
            return UNKNOWN;
        }
        return web.isBelow(a, b) ? 1 : 0;
    }

    public int place(int p, int what) {
        if (!web.hasPlace(p)) {
            return UNKNOWN;
        }
        switch (what) {
            case 0: return valueOf(web.starts[p]);
            case 1: return setOf(web.starts[p]);
            case 2: return findKnown() ? valueOf(known.found[p]) : NONE;
            case 3: return findKnown() ? setOf(known.found[p]) : NONE;
            case 4: return valueOf(rebuiltAt(p));
            case 5: return setOf(rebuiltAt(p));
            case 6: return web.isKept(p) ? valueOf(web.written[p]) : NONE;
            case 7: return web.isKept(p) ? setOf(web.written[p]) : NONE;
            default: return OUTSIDE;
        }
    }

    public int wayAt(int w, int what) {
        if (!web.hasWay(w)) {
            return UNKNOWN;
        }
        switch (what) {
            case 0: return web.from[w];
            case 1: return web.to[w];
            case 2: return web.gives[w];
            case 3: return web.takes[w];
            case 4: return web.gates[w];
            case 5: return web.keepsOrder(w) ? 1 : 0;
            case 6: return findKnown() ? otherwiseWithout(w) : NONE;
            case 7: return findKnown() ? valueOf(web.brought(w, known.found)) : NONE;
            case 8: return findKnown() ? setOf(web.brought(w, known.found)) : NONE;
            default: return OUTSIDE;
        }
    }

    public int mapped(int w, int v) {
        if (!web.hasWay(w) || !web.hasValue(v)) {
            return UNKNOWN;
        }
        return web.maps[w * MOST_VALUES + v];
    }

    public int steps(int choice) {
        if (!isChoice(choice)) {
            return OUTSIDE;
        }
        return trial.run(web, choice, NONE);
    }

    public int worked(int choice, int p) {
        if (!web.hasPlace(p)) {
            return UNKNOWN;
        }
        if (!isChoice(choice)) {
            return OUTSIDE;
        }
        return trial.run(web, choice, NONE) == NONE ? NONE : trial.found[p];
    }

    // ---- deeds

    public int build(int order, int m, int places) {
        if (order < CHAIN || order > BITS || m < 1 || m > MOST_VALUES || places < 0 || places > MOST_PLACES) {
            return OUTSIDE;
        }
        past.remember(web);
        int before = web.ways;
        web.becomeNew(order, m, places);
        return before;
    }

    public int cell(int a, int b, int v) {
        if (!web.hasValue(a) || !web.hasValue(b) || !web.hasValue(v)) {
            return UNKNOWN;
        }
        past.remember(web);
        web.table[a * MOST_VALUES + b] = v;
        return web.brokenLaw();
    }

    public int start(int p, int v, int set) {
        if (!web.hasPlace(p) || !web.hasValue(v)) {
            return UNKNOWN;
        }
        if (!isSet(set)) {
            return OUTSIDE;
        }
        past.remember(web);
        web.starts[p] = v * FACT + set;
        return 1;
    }

    public int way(int from, int to) {
        if (!web.hasPlace(from) || !web.hasPlace(to)) {
            return UNKNOWN;
        }
        if (web.ways >= MOST_WAYS) {
            return FULL;
        }
        past.remember(web);
        return web.addWay(from, to);
    }

    public int drop(int w) {
        if (!web.hasWay(w)) {
            return UNKNOWN;
        }
        past.remember(web);
        web.removeWay(w);
        return web.ways;
    }

    public int map(int w, int a, int v) {
        if (!web.hasWay(w) || !web.hasValue(a) || !web.hasValue(v)) {
            return UNKNOWN;
        }
        past.remember(web);
        int at = w * MOST_VALUES + a;
        int before = web.maps[at];
        web.maps[at] = v;
        return before;
    }

    public int marks(int w, int gives, int takes) {
        if (!web.hasWay(w)) {
            return UNKNOWN;
        }
        if (!isSet(gives) || !isSet(takes)) {
            return OUTSIDE;
        }
        past.remember(web);
        web.gives[w] = gives;
        web.takes[w] = takes;
        return 1;
    }

    public int gate(int w, int v) {
        if (!web.hasWay(w) || !web.hasValue(v)) {
            return UNKNOWN;
        }
        past.remember(web);
        int before = web.gates[w];
        web.gates[w] = v;
        return before;
    }

    public int write(int p, int v, int set) {
        if (!web.hasPlace(p) || !web.hasValue(v)) {
            return UNKNOWN;
        }
        if (!isSet(set)) {
            return OUTSIDE;
        }
        if (!web.isKept(p)) {
            return NOT;
        }
        past.remember(web);
        web.written[p] = v * FACT + set;
        return judge.refusedAt(web);
    }

    public int copy() {
        if (!findKnown()) {
            return NOT;
        }
        past.remember(web);
        int copied = 0;
        for (int p = 0; p < web.places; p++) {
            if (web.isKept(p)) {
                web.written[p] = known.found[p];
                copied++;
            }
        }
        return copied;
    }

    public int drift(int n) {
        if (n < 1 || n > MOST_DRAWN) {
            return OUTSIDE;
        }
        for (int i = 0; i < n && web.places > 0 && web.ways < MOST_WAYS; i++) {
            past.remember(web);
            addDrawnWay();
        }
        return web.ways;
    }

    public int undo(int n) {
        if (n < 1 || n > MOST_UNDONE) {
            return OUTSIDE;
        }
        if (n > past.kept) {
            return NOT;
        }
        past.bringBack(web, n);
        return web.ways;
    }

    // ---- the book

    public int note(int p, int v, int set) {
        if (!web.hasPlace(p) || !web.hasValue(v)) {
            return UNKNOWN;
        }
        if (!isSet(set)) {
            return OUTSIDE;
        }
        if (book.entries >= MOST_ENTRIES) {
            return FULL;
        }
        book.add(p, v * FACT + set);
        return book.entries;
    }

    public int tear() {
        int before = book.entries;
        book.entries = 0;
        return before;
    }

    // ---- images

    public int seed(int v) {
        if (v < 0) {
            return OUTSIDE;
        }
        int before = drawn;
        drawn = v;
        return before;
    }

    public int keep(int i) {
        if (i < 0 || i > 1) {
            return UNKNOWN;
        }
        Image image = i == 0 ? firstImage : secondImage;
        image.isThere = true;
        image.web.become(web);
        image.drawn = drawn;
        past.forget();
        return 1;
    }

    public int goBack(int i) {
        if (i < 0 || i > 1) {
            return UNKNOWN;
        }
        Image image = i == 0 ? firstImage : secondImage;
        if (!image.isThere) {
            return NOT;
        }
        web.become(image.web);
        drawn = image.drawn;
        past.forget();
        return 1;
    }

    // ---- what the calls share

    private static int valueOf(int fact) {
        return fact / FACT;
    }

    private static int setOf(int fact) {
        return fact & ALL_MARKS;
    }

    private static boolean isSet(int set) {
        return set >= 0 && set <= ALL_MARKS;
    }

    private static boolean isChoice(int choice) {
        return choice >= LEAST && choice <= LAST;
    }

    /**
     * Finds what is KNOWN, if ALL IS WELL. What is worked rises then, at each PLACE 15 times at most, and wakes
     * 10 PLACES at most each time: it ends within 10 + 10 * 15 * 10 steps, which the limit never cuts short.
     */
    private boolean findKnown() {
        if (!web.isWell()) {
            return false;
        }
        known.run(web, LEAST, NONE);
        return true;
    }

    /** Asks that what is KNOWN has just been found. */
    private int otherwiseWithout(int w) {
        trial.run(web, LEAST, w);
        int differing = 0;
        for (int p = 0; p < web.places; p++) {
            if (trial.found[p] != known.found[p]) {
                differing++;
            }
        }
        return differing;
    }

    private int waysThatMatter() {
        if (!findKnown()) {
            return NONE;
        }
        int matter = 0;
        for (int w = 0; w < web.ways; w++) {
            if (otherwiseWithout(w) > 0) {
                matter |= 1 << w;
            }
        }
        return matter;
    }

    private int rebuiltAt(int p) {
        judge.rebuild(web);
        return judge.rebuilt[p];
    }

    private boolean isExact() {
        if (!findKnown() || judge.refusedAt(web) != NONE) {
            return false;
        }
        for (int p = 0; p < web.places; p++) {
            if (judge.rebuilt[p] != known.found[p]) {
                return false;
            }
        }
        return true;
    }

    private int firstWrongEntry() {
        if (book.entries == 0) {
            return NONE;
        }
        return findKnown() ? book.firstUnlike(known.found, web.places) : 0;
    }

    private void addDrawnWay() {
        int from = draw(web.places);
        int to = draw(web.places);
        int w = web.addWay(from, to);
        web.gates[w] = draw(web.values);
        web.gives[w] = 1 << draw(MARKS);
        web.takes[w] = 1 << draw(MARKS);
    }

    private int draw(int n) {
        drawn = (int) ((drawn * 1103515245L + 12345L) % 2147483648L);
        return n > 0 ? drawn / 65536 % n : 0;
    }

    /** All of section 1 and what is WRITTEN: what deeds change and undo() brings back. */
    private static final class Web {
        int values;
        int places;
        int ways;
        final int[] table = new int[MOST_VALUES * MOST_VALUES];
        final int[] starts = new int[MOST_PLACES];
        final int[] written = new int[MOST_PLACES];
        final int[] from = new int[MOST_WAYS];
        final int[] to = new int[MOST_WAYS];
        final int[] maps = new int[MOST_WAYS * MOST_VALUES];
        final int[] gives = new int[MOST_WAYS];
        final int[] takes = new int[MOST_WAYS];
        final int[] gates = new int[MOST_WAYS];

        void become(Web other) {
            values = other.values;
            places = other.places;
            ways = other.ways;
            System.arraycopy(other.table, 0, table, 0, MOST_VALUES * MOST_VALUES);
            System.arraycopy(other.starts, 0, starts, 0, MOST_PLACES);
            System.arraycopy(other.written, 0, written, 0, MOST_PLACES);
            System.arraycopy(other.from, 0, from, 0, MOST_WAYS);
            System.arraycopy(other.to, 0, to, 0, MOST_WAYS);
            System.arraycopy(other.maps, 0, maps, 0, MOST_WAYS * MOST_VALUES);
            System.arraycopy(other.gives, 0, gives, 0, MOST_WAYS);
            System.arraycopy(other.takes, 0, takes, 0, MOST_WAYS);
            System.arraycopy(other.gates, 0, gates, 0, MOST_WAYS);
        }

        void becomeNew(int order, int m, int newPlaces) {
            values = order == BITS ? MOST_VALUES : m;
            places = newPlaces;
            ways = 0;
            for (int a = 0; a < values; a++) {
                for (int b = 0; b < values; b++) {
                    table[a * MOST_VALUES + b] = joinedByOrder(order, a, b);
                }
            }
            for (int p = 0; p < MOST_PLACES; p++) {
                starts[p] = 0;
                written[p] = 0;
            }
        }

        private int joinedByOrder(int order, int a, int b) {
            if (order == BITS) {
                return a | b;
            }
            boolean isUnlikeInFan = order == FAN && a != 0 && b != 0 && a != b;
            return isUnlikeInFan ? values - 1 : Math.max(a, b);
        }

        boolean hasValue(int v) {
            return v >= 0 && v < values;
        }

        boolean hasPlace(int p) {
            return p >= 0 && p < places;
        }

        boolean hasWay(int w) {
            return w >= 0 && w < ways;
        }

        int join(int a, int b) {
            return table[a * MOST_VALUES + b];
        }

        boolean isBelow(int a, int b) {
            return table[a * MOST_VALUES + b] == b;
        }

        int brokenLaw() {
            if (!joinsWithItself()) {
                return 1;
            }
            if (!joinsBothWaysAlike()) {
                return 2;
            }
            if (!joinsInAnyGroupsAlike()) {
                return 3;
            }
            return joinsZeroAsNothing() ? 0 : 4;
        }

        private boolean joinsWithItself() {
            for (int a = 0; a < values; a++) {
                if (join(a, a) != a) {
                    return false;
                }
            }
            return true;
        }

        private boolean joinsBothWaysAlike() {
            for (int a = 0; a < values; a++) {
                for (int b = 0; b < a; b++) {
                    if (join(a, b) != join(b, a)) {
                        return false;
                    }
                }
            }
            return true;
        }

        private boolean joinsInAnyGroupsAlike() {
            for (int a = 0; a < values; a++) {
                for (int b = 0; b < values; b++) {
                    int ab = join(a, b);
                    for (int c = 0; c < values; c++) {
                        if (join(ab, c) != join(a, join(b, c))) {
                            return false;
                        }
                    }
                }
            }
            return true;
        }

        private boolean joinsZeroAsNothing() {
            for (int a = 0; a < values; a++) {
                if (join(0, a) != a) {
                    return false;
                }
            }
            return true;
        }

        boolean keepsOrder(int w) {
            int row = w * MOST_VALUES;
            for (int a = 0; a < values; a++) {
                for (int b = 0; b < values; b++) {
                    if (isBelow(a, b) && !isBelow(maps[row + a], maps[row + b])) {
                        return false;
                    }
                }
            }
            return true;
        }

        int firstOutOfOrder() {
            for (int w = 0; w < ways; w++) {
                if (!keepsOrder(w)) {
                    return w;
                }
            }
            return NONE;
        }

        boolean isWell() {
            return brokenLaw() == 0 && firstOutOfOrder() == NONE;
        }

        boolean isKept(int p) {
            for (int w = 0; w < ways; w++) {
                if (to[w] == p && from[w] >= p) {
                    return true;
                }
            }
            return false;
        }

        int keptPlaces() {
            int kept = 0;
            for (int w = 0; w < ways; w++) {
                if (from[w] >= to[w]) {
                    kept |= 1 << to[w];
                }
            }
            return kept;
        }

        /** The fact that a WAY brings, by the facts at all PLACES. */
        int brought(int w, int[] facts) {
            int fact = facts[from[w]];
            int v = valueOf(fact);
            if (!isBelow(gates[w], v)) {
                return 0;
            }
            return maps[w * MOST_VALUES + v] * FACT + (setOf(fact) & ~takes[w] | gives[w]);
        }

        /**
         * START of a PLACE and what all WAYS to it but one (NONE: all) bring, TOGETHER. A WAY that brings nothing
         * is joined too: in a table that breaks a LAW that may change the VALUE.
         */
        int together(int p, int[] facts, int without) {
            int v = valueOf(starts[p]);
            int set = setOf(starts[p]);
            for (int w = 0; w < ways; w++) {
                if (to[w] == p && w != without) {
                    int fact = brought(w, facts);
                    v = join(v, valueOf(fact));
                    set |= setOf(fact);
                }
            }
            return v * FACT + set;
        }

        boolean isNoMore(int fact, int than) {
            return isBelow(valueOf(fact), valueOf(than)) && (setOf(fact) & ~setOf(than)) == 0;
        }

        /** Asks that there is room. */
        int addWay(int begin, int end) {
            int w = ways;
            from[w] = begin;
            to[w] = end;
            gives[w] = 0;
            takes[w] = 0;
            gates[w] = 0;
            for (int v = 0; v < MOST_VALUES; v++) {
                maps[w * MOST_VALUES + v] = v;
            }
            ways++;
            return w;
        }

        void removeWay(int w) {
            int later = ways - w - 1;
            System.arraycopy(from, w + 1, from, w, later);
            System.arraycopy(to, w + 1, to, w, later);
            System.arraycopy(gives, w + 1, gives, w, later);
            System.arraycopy(takes, w + 1, takes, w, later);
            System.arraycopy(gates, w + 1, gates, w, later);
            System.arraycopy(maps, (w + 1) * MOST_VALUES, maps, w * MOST_VALUES, later * MOST_VALUES);
            ways--;
        }
    }

    /** WORKED: facts from nothing on, PLACE by PLACE, by a CHOICE of the next. */
    private static final class Work {
        final int[] found = new int[MOST_PLACES];
        private final int[] waiting = new int[MOST_PLACES];
        private int waits;

        /** STEPS, without one WAY (NONE: with all); NONE: it did not end. */
        int run(Web web, int choice, int without) {
            waits = web.places;
            for (int p = 0; p < web.places; p++) {
                found[p] = 0;
                waiting[p] = p;
            }
            int steps = 0;
            while (waits > 0 && steps < MOST_STEPS) {
                steps++;
                int p = takeNext(choice);
                int fact = web.together(p, found, without);
                if (fact != found[p]) {
                    found[p] = fact;
                    wakeBehind(web, p, without);
                }
            }
            return waits > 0 ? NONE : steps;
        }

        /** Asks that one waits. */
        private int takeNext(int choice) {
            int at = choice == LEAST ? leastWaiting() : choice == LONGEST ? 0 : waits - 1;
            int p = waiting[at];
            waits--;
            for (int i = at; i < waits; i++) {
                waiting[i] = waiting[i + 1];
            }
            return p;
        }

        private int leastWaiting() {
            int at = 0;
            for (int i = 1; i < waits; i++) {
                if (waiting[i] < waiting[at]) {
                    at = i;
                }
            }
            return at;
        }

        private void wakeBehind(Web web, int p, int without) {
            for (int w = 0; w < web.ways; w++) {
                if (web.from[w] == p && w != without && !isWaiting(web.to[w]) && waits < MOST_PLACES) {
                    waiting[waits] = web.to[w];
                    waits++;
                }
            }
        }

        private boolean isWaiting(int p) {
            for (int i = 0; i < waits; i++) {
                if (waiting[i] == p) {
                    return true;
                }
            }
            return false;
        }
    }

    /** Looks once through what is WRITTEN. */
    private static final class Judge {
        final int[] rebuilt = new int[MOST_PLACES];

        void rebuild(Web web) {
            for (int p = 0; p < web.places; p++) {
                rebuilt[p] = web.isKept(p) ? web.written[p] : web.together(p, rebuilt, NONE);
            }
        }

        int refusedAt(Web web) {
            rebuild(web);
            for (int p = 0; p < web.places; p++) {
                if (web.isKept(p) && !web.isNoMore(web.together(p, rebuilt, NONE), web.written[p])) {
                    return p;
                }
            }
            return NONE;
        }
    }

    /** THE BOOK: what somebody says is KNOWN. No undo() and no IMAGE changes it. */
    private static final class Book {
        int entries;
        private final int[] place = new int[MOST_ENTRIES];
        private final int[] fact = new int[MOST_ENTRIES];

        /** Asks that there is room. */
        void add(int p, int said) {
            place[entries] = p;
            fact[entries] = said;
            entries++;
        }

        int firstUnlike(int[] facts, int places) {
            for (int i = 0; i < entries; i++) {
                if (place[i] >= places || facts[place[i]] != fact[i]) {
                    return i;
                }
            }
            return NONE;
        }
    }

    /** Webs as they were ahead of the latest deeds, in a ring: the oldest gives its room to the newest. */
    private static final class Past {
        int kept;
        private int next;
        private final Web[] ring = new Web[MOST_UNDONE];

        Past() {
            for (int i = 0; i < MOST_UNDONE; i++) {
                ring[i] = new Web();
            }
        }

        void remember(Web web) {
            ring[next].become(web);
            next = (next + 1) % MOST_UNDONE;
            kept = Math.min(kept + 1, MOST_UNDONE);
        }

        /** Asks that so many are kept. */
        void bringBack(Web web, int n) {
            next = (next + MOST_UNDONE - n) % MOST_UNDONE;
            kept -= n;
            web.become(ring[next]);
        }

        void forget() {
            kept = 0;
        }
    }

    /** A web and THE SEED, to go on from. */
    private static final class Image {
        final Web web = new Web();
        int drawn;
        boolean isThere;
    }
}
