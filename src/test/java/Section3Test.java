import java.io.IOException;
import java.math.BigInteger;

/** Section 3 of the document, a test for each sentence that names a boundary case. */
public final class Section3Test {
    private static final int NONE = FixedFacts.NONE, UNKNOWN = FixedFacts.UNKNOWN, OUTSIDE = FixedFacts.OUTSIDE,
            NOT = FixedFacts.NOT, FULL = FixedFacts.FULL;
    private static final int GREATEST_SEED = 2147483647;
    private static final String[] DEEDS = {"build", "cell", "start", "way", "drop", "map", "marks", "gate", "write", "copy", "drift"};

    private static Check check;

    public static void main(String[] args) throws IOException {
        check = new Check("Section3Test");
        withoutAWay();
        withoutIfNotWell();
        allMatter();
        noneMatters();
        exact();
        bookOf20();
        firstWrongEntry();
        wrongIfNotWell();
        wrongIfThePlaceIsGone();
        seedAtFirst();
        seedOver2ToThe31();
        drawOfOne();
        drawnWays();
        whileThereIsRoom();
        ifThereArePlaces();
        eachTimeByDrawsIsADeed();
        deedsThatCanBeUndone();
        whatIsNoDeed();
        sixteenAtMost();
        behindTheOldestDeed();
        sinceTheImage();
        undoOutOfItsBounds();
        deedsThatChangeNothing();
        theLastOfEverything();
        seedStays();
        imagesKeepThese();
        imageThatIsNotKept();
        imagesOverOneAnother();
        check.end();
    }

    private static void due(String call, int got, int want) {
        check.due(call, got, want);
    }

    private static Counted web(int order, int m, int places) {
        Counted x = new Counted();
        due("build(" + order + ", " + m + ", " + places + ")", x.build(order, m, places), 0);
        return x;
    }

    // ---- WITHOUT, MATTERS, EXACT

    private static void withoutAWay() {
        check.says("WITHOUT a WAY: how many PLACES would be KNOWN otherwise, were it not there (NONE: not ALL IS WELL).");
        Counted x = web(0, 2, 10);
        for (int p = 0; p < 10; p++) {
            x.way(p, (p + 1) % 10);
        }
        x.marks(0, 1, 0);
        due("all 10 PLACES", x.wayAt(0, 6), 10);
        due("all 10 but the one ahead of it", x.wayAt(1, 6), 9);
        due("the last alone", x.wayAt(9, 6), 1);
        x.way(0, 1);
        due("another brings nothing more", x.wayAt(10, 6), 0);
        x.marks(10, 1, 0);
        due("either of two that are alike", x.wayAt(0, 6), 0);
        due("either of two that are alike", x.wayAt(10, 6), 0);
        due("the WAYS are as they were", x.told(2), 11);
        due("no such WAY", x.wayAt(11, 6), UNKNOWN);
    }

    private static void withoutIfNotWell() {
        check.says("WITHOUT a WAY: how many PLACES would be KNOWN otherwise, were it not there (NONE: not ALL IS WELL).");
        Counted x = web(0, 2, 3);
        x.way(0, 1);
        x.way(1, 2);
        x.start(0, 1, 0);
        due("well", x.wayAt(0, 6), 2);
        x.map(1, 0, 1);
        x.map(1, 1, 0);
        due("by another WAY", x.wayAt(0, 6), NONE);
        due("by this WAY, though it would be well without it", x.wayAt(1, 6), NONE);
        due("MATTERS", x.told(9), NONE);
        x.map(1, 0, 0);
        x.map(1, 1, 1);
        x.cell(0, 1, 0);
        due("by a LAW", x.wayAt(0, 6), NONE);
        due("by a LAW: MATTERS", x.told(9), NONE);
        due("by a LAW: VALUE that it brings", x.wayAt(0, 7), NONE);
        due("by a LAW: SET that it brings", x.wayAt(0, 8), NONE);
    }

    private static void allMatter() {
        check.says("MATTERS: WAYS (a SET) for which that is more than 0.");
        Counted x = web(0, 2, 10);
        for (int w = 0; w < 20; w++) {
            x.way(0, 1 + w % 9);
            x.marks(w, 1 << w / 9, 0);
        }
        due("all 20", x.told(9), (1 << 20) - 1);
        x.start(1, 0, 7);
        due("all but those to PLACE 1", x.told(9), (1 << 20) - 1 - 1 - (1 << 9) - (1 << 18));
        due("each by itself", x.wayAt(19, 6), 1);
        due("each by itself", x.wayAt(18, 6), 0);
    }

    private static void noneMatters() {
        check.says("9 MATTERS (NONE: not ALL IS WELL)");
        Counted x = web(0, 2, 2);
        due("no WAYS", x.told(9), 0);
        x.way(0, 1);
        due("a WAY that brings nothing", x.told(9), 0);
        x.start(0, 1, 0);
        due("a WAY that brings something", x.told(9), 1);
        x.cell(1, 1, 0);
        due("not well", x.told(9), NONE);
        x.build(0, 2, 0);
        due("no PLACES", x.told(9), 0);
        x.cell(1, 1, 0);
        due("no PLACES, no WAYS, but not well", x.told(9), NONE);
    }

    private static void exact() {
        check.says("EXACT: ALL IS WELL, what is WRITTEN is TAKEN, and all that is REBUILT is KNOWN so.");
        Counted x = web(0, 4, 2);
        due("none is KEPT", x.told(8), 1);
        x.start(0, 1, 1);
        due("none is KEPT", x.told(8), 1);
        x.way(1, 0);
        due("less is WRITTEN: not TAKEN", x.told(8), 0);
        due("just that", x.write(0, 1, 1), NONE);
        due("just that", x.told(8), 1);
        due("one mark more: TAKEN", x.write(0, 1, 3), NONE);
        due("one mark more", x.told(8), 0);
        due("one VALUE more: TAKEN", x.write(0, 2, 1), NONE);
        due("one VALUE more", x.told(8), 0);
        x.write(0, 1, 1);
        x.cell(3, 3, 0);
        due("TAKEN", x.told(7), NONE);
        due("but not well by a LAW", x.told(8), 0);
        x.cell(3, 3, 3);
        x.map(0, 3, 0);
        due("TAKEN", x.told(7), NONE);
        due("but not well by a WAY", x.told(8), 0);
        x.map(0, 3, 3);
        due("well again", x.told(8), 1);
        x.build(0, 1, 0);
        due("no PLACES", x.told(8), 1);
    }

    // ---- THE BOOK

    private static void bookOf20() {
        check.says("THE BOOK (20 at most) tells KNOWN of a PLACE");
        Counted x = new Counted();
        due("empty", x.told(10), 0);
        due("empty: NONE is WRONG", x.told(11), NONE);
        due("empty: tear", x.tear(), 0);
        for (int round = 0; round < 2; round++) {
            for (int k = 1; k <= 20; k++) {
                due("entry", x.note(k % 4, 0, 0), k);
                due("entries", x.told(10), k);
            }
            due("the 21st", x.note(0, 0, 0), FULL);
            due("the 21st, SET 256", x.note(0, 0, 256), OUTSIDE);
            due("the 21st, SET -1", x.note(0, 0, -1), OUTSIDE);
            due("the 21st, VALUE 4", x.note(0, 4, 256), UNKNOWN);
            due("the 21st, PLACE 4", x.note(4, 0, 256), UNKNOWN);
            due("entries", x.told(10), 20);
            due("all are so", x.told(11), NONE);
            due("tear", x.tear(), 20);
            due("entries", x.told(10), 0);
        }
        due("SET 255", x.note(3, 3, 255), 1);
        due("it is otherwise", x.told(11), 0);
        x.start(3, 3, 255);
        due("it is so", x.told(11), NONE);
    }

    private static void firstWrongEntry() {
        check.says("WRONG: the first that is otherwise now");
        Counted x = web(0, 4, 10);
        for (int k = 0; k < 20; k++) {
            x.note(k / 2, 1, 1);
        }
        due("all are otherwise", x.told(11), 0);
        for (int p = 0; p < 10; p++) {
            x.start(p, 1, 1);
            due("the first that is otherwise", x.told(11), p == 9 ? NONE : 2 * p + 2);
        }
        x.start(9, 1, 0);
        due("the SET alone", x.told(11), 18);
        x.start(9, 2, 1);
        due("the VALUE alone", x.told(11), 18);
        x.start(3, 0, 0);
        due("the first of more", x.told(11), 6);
        Counted last = web(0, 4, 2);
        for (int k = 0; k < 19; k++) {
            last.note(0, 0, 0);
        }
        last.note(1, 0, 1);
        due("the last of 20", last.told(11), 19);
    }

    private static void wrongIfNotWell() {
        check.says("(not ALL IS WELL, a PLACE that there is no more: it is, too); NONE.");
        Counted x = web(0, 2, 2);
        x.cell(1, 1, 0);
        due("not well, no entries", x.told(11), NONE);
        x.note(0, 0, 0);
        x.note(1, 0, 0);
        due("not well: the first", x.told(11), 0);
        x.cell(1, 1, 1);
        due("well", x.told(11), NONE);
        x.way(0, 1);
        x.map(0, 0, 1);
        x.map(0, 1, 0);
        due("not well by a WAY: the first", x.told(11), 0);
        x.tear();
        due("not well, no entries any more", x.told(11), NONE);
    }

    private static void wrongIfThePlaceIsGone() {
        check.says("a PLACE that there is no more: it is, too");
        Counted x = web(0, 2, 3);
        x.note(0, 0, 0);
        x.note(1, 0, 0);
        x.note(2, 0, 0);
        due("all are so", x.told(11), NONE);
        x.build(0, 2, 2);
        due("no PLACE 2", x.told(11), 2);
        x.build(0, 2, 1);
        due("no PLACE 1", x.told(11), 1);
        x.build(0, 2, 0);
        due("no PLACES", x.told(11), 0);
        due("the entries stay", x.told(10), 3);
        x.build(2, 8, 10);
        due("all are so again", x.told(11), NONE);
        Counted far = web(0, 2, 10);
        far.note(9, 0, 0);
        due("PLACE 9 is so", far.told(11), NONE);
        far.build(0, 2, 3);
        due("no PLACE 9 among 3", far.told(11), 0);
        far.build(0, 2, 9);
        due("no PLACE 9 among 9", far.told(11), 0);
        far.build(0, 2, 10);
        due("PLACE 9 is so again", far.told(11), NONE);
        Counted value = web(0, 8, 1);
        value.start(0, 7, 0);
        value.note(0, 7, 0);
        value.build(0, 2, 1);
        due("a VALUE that there is no more", value.told(11), 0);
    }

    // ---- BY DRAWS

    private static long after(long seed, int draws) {
        BigInteger it = BigInteger.valueOf(seed);
        for (int i = 0; i < draws; i++) {
            it = it.multiply(BigInteger.valueOf(1103515245)).add(BigInteger.valueOf(12345)).mod(BigInteger.TWO.pow(31));
        }
        return it.longValueExact();
    }

    private static int draw(long seed, int draws, int n) {
        return (int) (after(seed, draws) / 65536 % n);
    }

    private static void seedAtFirst() {
        check.says("BY DRAWS: THE SEED (0 at first");
        Counted x = new Counted();
        due("0 at first", x.seed(0), 0);
        due("drift", x.drift(1), 1);
        due("five DRAWS", x.seed(0), (int) after(0, 5));
        due("the first DRAW: 12345 / 65536 is 0", x.wayAt(0, 0), 0);
        due("the second DRAW", x.wayAt(0, 1), draw(0, 2, 4));
        due("the greatest", x.seed(GREATEST_SEED), 0);
        due("what it was", x.seed(1), GREATEST_SEED);
        due("-1", x.seed(-1), OUTSIDE);
        due("the least int", x.seed(Integer.MIN_VALUE), OUTSIDE);
        due("it stays", x.seed(0), 1);
    }

    private static void seedOver2ToThe31() {
        check.says("each DRAW it becomes it times 1103515245 and 12345, left over by 2 to the 31");
        int[] seeds = {0, 1, 2, 65535, 65536, 12345, 1 << 30, (1 << 30) - 1, GREATEST_SEED - 1, GREATEST_SEED};
        for (int seed : seeds) {
            Counted x = web(2, 8, 10);
            x.seed(seed);
            for (int n = 1; n <= 16; n++) {
                x.drift(1);
                int now = x.seed(0);
                due("THE SEED from " + seed + " after " + n, now, (int) after(seed, 5 * n));
                check.holds("THE SEED is never below 0", now >= 0);
                x.seed(now);
            }
        }
    }

    private static void drawOfOne() {
        check.says("the DRAW of n is it / 65536, left over by n");
        Counted x = web(0, 1, 1);
        x.seed(GREATEST_SEED);
        due("drift", x.drift(16), 16);
        for (int w = 0; w < 16; w++) {
            due("DRAW of 1: from", x.wayAt(w, 0), 0);
            due("DRAW of 1: to", x.wayAt(w, 1), 0);
            due("DRAW of 1: GATE", x.wayAt(w, 4), 0);
            due("DRAW of 8: GIVES", x.wayAt(w, 2), 1 << draw(GREATEST_SEED, 5 * w + 4, 8));
            due("DRAW of 8: TAKES", x.wayAt(w, 3), 1 << draw(GREATEST_SEED, 5 * w + 5, 8));
        }
        due("DRAWS of 1 are DRAWS, too", x.seed(0), (int) after(GREATEST_SEED, 80));
    }

    private static void drawnWays() {
        check.says("a DRAW of PLACES, of PLACES, of M, of 8, of 8: a WAY from the first to the second, GATE the third, that GIVES "
                + "the mark of the fourth, TAKES the mark of the fifth.");
        for (int places = 1; places <= 10; places++) {
            for (int m = 1; m <= 8; m++) {
                Counted x = web(1, m, places);
                int seed = 1000 * places + m;
                x.seed(seed);
                due("drift", x.drift(5), 5);
                for (int w = 0; w < 5; w++) {
                    due("from", x.wayAt(w, 0), draw(seed, 5 * w + 1, places));
                    due("to", x.wayAt(w, 1), draw(seed, 5 * w + 2, places));
                    due("GATE", x.wayAt(w, 4), draw(seed, 5 * w + 3, m));
                    due("GIVES", x.wayAt(w, 2), 1 << draw(seed, 5 * w + 4, 8));
                    due("TAKES", x.wayAt(w, 3), 1 << draw(seed, 5 * w + 5, 8));
                    due("MAP", x.mapped(w, m - 1), m - 1);
                }
            }
        }
        Counted again = web(0, 8, 2);
        again.way(0, 1);
        again.map(0, 7, 0);
        again.marks(0, 255, 255);
        again.drop(0);
        again.drift(1);
        due("MAP is itself, where another went", again.mapped(0, 7), 7);
        due("GIVES one mark", Integer.bitCount(again.wayAt(0, 2)), 1);
        due("TAKES one mark", Integer.bitCount(again.wayAt(0, 3)), 1);
    }

    private static void whileThereIsRoom() {
        check.says("n times, if there are PLACES and while there is room");
        for (int ways = 0; ways <= 20; ways++) {
            for (int n : new int[] {1, 2, 15, 16}) {
                Counted x = web(0, 4, 3);
                for (int w = 0; w < ways; w++) {
                    x.way(w % 3, 0);
                }
                x.keep(0);
                x.seed(5);
                int times = Math.min(n, 20 - ways);
                String text = "drift(" + n + ") of " + ways + " WAYS";
                due(text, x.drift(n), ways + times);
                due(text + ": WAYS", x.told(2), ways + times);
                due(text + ": deeds", x.told(12), times);
                due(text + ": THE SEED", x.seed(0), (int) after(5, 5 * times));
            }
        }
        Counted x = new Counted();
        due("drift(0)", x.drift(0), OUTSIDE);
        due("drift(17)", x.drift(17), OUTSIDE);
        due("no WAYS by these", x.told(2), 0);
        due("no DRAWS by these", x.seed(0), 0);
    }

    private static void ifThereArePlaces() {
        check.says("n times, if there are PLACES and while there is room");
        Counted x = web(0, 4, 0);
        x.seed(5);
        due("no PLACES", x.drift(1), 0);
        due("no PLACES", x.drift(16), 0);
        due("no PLACES: no DRAWS", x.seed(5), 5);
        due("no PLACES: no deeds", x.told(12), 1);
        due("out of its bounds all the same", x.drift(17), OUTSIDE);
        x.build(0, 4, 1);
        due("one PLACE", x.drift(1), 1);
    }

    // ---- UNDONE

    private static void eachTimeByDrawsIsADeed() {
        check.says("each of the times BY DRAWS) since the IMAGE (16 at most are kept)");
        Counted x = new Counted();
        x.seed(8);
        x.start(0, 1, 1);
        due("drift(15)", x.drift(15), 15);
        due("16 deeds", x.told(12), 16);
        due("undo of 15 times", x.undo(15), 0);
        due("START is left", x.place(0, 0), 1);
        due("undo of START", x.undo(1), 0);
        due("START is undone", x.place(0, 0), 0);
        x.start(0, 1, 1);
        due("drift(16)", x.drift(16), 16);
        due("16 deeds, START not among them", x.told(12), 16);
        due("undo of 16 times", x.undo(16), 0);
        due("START is left", x.place(0, 0), 1);
        due("no more", x.undo(1), NOT);
        due("drift(4)", x.drift(4), 4);
        due("the latest goes", x.undo(1), 3);
        due("the next goes", x.undo(1), 2);
    }

    private static int[] argumentsOf(String deed) {
        return switch (deed) {
            case "build" -> new int[] {2, 8, 10};
            case "cell" -> new int[] {2, 1, 1};
            case "start" -> new int[] {1, 3, 7};
            case "way" -> new int[] {0, 0};
            case "drop" -> new int[] {0};
            case "map" -> new int[] {1, 2, 3};
            case "marks" -> new int[] {2, 1, 128};
            case "gate" -> new int[] {0, 2};
            case "write" -> new int[] {0, 3, 255};
            case "drift" -> new int[] {1};
            default -> new int[0];
        };
    }

    private static Counted ring() {
        Counted x = web(0, 4, 3);
        x.way(0, 1);
        x.way(1, 2);
        x.way(2, 0);
        x.start(0, 1, 1);
        x.write(0, 2, 5);
        x.seed(7);
        x.keep(0);
        return x;
    }

    private static String seen(Counted x) {
        StringBuilder seen = new StringBuilder();
        for (int what = 0; what <= 9; what++) {
            seen.append(x.told(what)).append(' ');
        }
        for (int i = 0; i < 16; i++) {
            seen.append(x.joined(i / 4, i % 4)).append(' ');
        }
        for (int i = 0; i < 24; i++) {
            seen.append(x.place(i / 8, i % 8)).append(' ');
        }
        for (int i = 0; i < 27; i++) {
            seen.append(x.wayAt(i / 9, i % 9)).append(' ');
        }
        for (int i = 0; i < 12; i++) {
            seen.append(x.mapped(i / 4, i % 4)).append(' ');
        }
        return seen.toString();
    }

    private static void deedsThatCanBeUndone() {
        check.says("UNDONE: the latest deeds (build(), cell(), start(), way(), drop(), map(), marks(), gate(), write(), copy(), "
                + "each of the times BY DRAWS)");
        String before = seen(ring());
        for (String deed : DEEDS) {
            Counted x = ring();
            due("nothing yet", x.told(12), 0);
            x.call(deed, argumentsOf(deed));
            due(deed + " is a deed", x.told(12), 1);
            check.holds(deed + " changes something", !seen(x).equals(before));
            due(deed + ": undo", x.undo(1), 3);
            check.holds(deed + " is undone", seen(x).equals(before));
            due(deed + " is gone", x.told(12), 0);
        }
        // all of them one after the other: copy() ahead of the MAP and THE TABLE that it would refuse, build() last
        Counted x = ring();
        for (int i = DEEDS.length - 1; i >= 0; i--) {
            x.call(DEEDS[i], argumentsOf(DEEDS[i]));
        }
        due("all", x.told(12), 11);
        due("all are undone at once", x.undo(11), 3);
        check.holds("all are undone at once", seen(x).equals(before));
    }

    private static void whatIsNoDeed() {
        check.says("12 how many can be undone");
        Counted x = ring();
        x.note(0, 1, 1);
        x.tear();
        x.note(0, 1, 1);
        x.seed(12);
        x.steps(0);
        x.worked(1, 1);
        x.place(0, 2);
        x.wayAt(0, 6);
        x.told(9);
        x.joined(1, 1);
        x.below(1, 1);
        x.mapped(0, 1);
        due("no deeds", x.told(12), 0);
        x.gate(0, 1);
        x.gate(1, 1);
        due("two deeds", x.told(12), 2);
        x.undo(1);
        due("undo is no deed", x.told(12), 1);
        x.undo(1);
        due("undo of all", x.told(12), 0);
        due("an undone deed does not come back", x.undo(1), NOT);
        due("THE BOOK stays", x.told(10), 1);
    }

    private static void sixteenAtMost() {
        check.says("since the IMAGE (16 at most are kept)");
        for (int deeds = 0; deeds <= 40; deeds++) {
            Counted x = new Counted();
            for (int k = 1; k <= deeds; k++) {
                x.start(0, k % 4, k);
            }
            int kept = Math.min(deeds, 16);
            due(deeds + " deeds", x.told(12), kept);
            if (kept < 16) {
                due("one more than there are", x.undo(kept + 1), NOT);
            }
            if (kept > 0) {
                due("all that are kept", x.undo(kept), 0);
            }
            due("the first that cannot be undone stays", x.place(0, 1), deeds - kept);
            due("none is left", x.told(12), 0);
            due("none is left", x.undo(1), NOT);
        }
    }

    /** Deeds and undos in turn, so that what is kept goes round more than once. */
    private static void behindTheOldestDeed() {
        check.says("since the IMAGE (16 at most are kept)");
        for (int back = 1; back <= 16; back++) {
            Counted x = new Counted();
            int[] sets = new int[256];
            int now = 0, kept = 0;
            for (int k = 1; k <= 100; k++) {
                x.start(0, 0, k);
                now++;
                sets[now] = k;
                kept = Math.min(16, kept + 1);
                if (k % 19 == 0) {
                    int n = Math.min(back, kept);
                    due("undo(" + n + ")", x.undo(n), 0);
                    now -= n;
                    kept -= n;
                    due("as ahead of them", x.place(0, 1), sets[now]);
                    due("can be undone", x.told(12), kept);
                }
            }
            while (kept > 0) {
                due("one by one", x.undo(1), 0);
                kept--;
                now--;
                due("one by one", x.place(0, 1), sets[now]);
            }
            due("no more", x.undo(1), NOT);
        }
    }

    private static void sinceTheImage() {
        check.says("(nothing can be undone then): 1.");
        for (int deeds = 0; deeds <= 17; deeds++) {
            Counted x = new Counted();
            for (int k = 0; k < deeds; k++) {
                x.start(0, 1, k);
            }
            due("keep", x.keep(1), 1);
            due("nothing after keep", x.told(12), 0);
            due("nothing after keep", x.undo(1), NOT);
            x.start(1, 1, 200);
            due("one deed", x.told(12), 1);
            due("not two", x.undo(2), NOT);
            due("undo", x.undo(1), 0);
            due("what was ahead of the IMAGE stays", x.place(0, 1), deeds == 0 ? 0 : deeds - 1);
            x.start(1, 1, 200);
            due("goBack", x.goBack(1), 1);
            due("nothing after goBack", x.told(12), 0);
            due("nothing after goBack", x.undo(1), NOT);
        }
        // a refused keep or goBack leaves what can be undone
        Counted x = new Counted();
        x.start(0, 1, 1);
        due("keep(2)", x.keep(2), UNKNOWN);
        due("goBack(1)", x.goBack(1), NOT);
        due("can be undone still", x.told(12), 1);
    }

    private static void undoOutOfItsBounds() {
        check.says("The n latest (1 .. 16) are undone: WAYS. OUTSIDE, NOT: not so many.");
        Counted x = new Counted();
        due("undo(0), none there", x.undo(0), OUTSIDE);
        due("undo(17), none there", x.undo(17), OUTSIDE);
        due("undo(-1), none there", x.undo(-1), OUTSIDE);
        due("undo(1), none there", x.undo(1), NOT);
        due("undo(16), none there", x.undo(16), NOT);
        for (int k = 0; k < 20; k++) {
            x.way(0, 1);
        }
        due("undo(0), 16 there", x.undo(0), OUTSIDE);
        due("undo(17), 16 there", x.undo(17), OUTSIDE);
        due("undo(16), 16 there", x.undo(16), 4);
        due("undo(1), none there", x.undo(1), NOT);
        due("WAYS", x.told(2), 4);
    }

    private static void deedsThatChangeNothing() {
        check.says("UNDONE: the latest deeds");
        Counted x = web(0, 1, 1);
        x.way(0, 0);
        x.keep(0);
        x.cell(0, 0, 0);
        x.start(0, 0, 0);
        x.map(0, 0, 0);
        x.marks(0, 0, 0);
        x.gate(0, 0);
        x.write(0, 0, 0);
        x.copy();
        due("each is a deed", x.told(12), 7);
        due("drop", x.drop(0), 0);
        x.build(0, 1, 1);
        due("copy of none", x.copy(), 0);
        due("each is a deed", x.told(12), 10);
        due("undo", x.undo(3), 1);
        due("undo", x.undo(7), 1);
    }

    /** The greatest web there can be, and what stands at its far end. */
    private static Counted greatest() {
        Counted x = web(2, 8, 10);
        for (int w = 0; w < 20; w++) {
            x.way(9, 9);
        }
        x.keep(0);
        return x;
    }

    private static void theLastOfEverything() {
        check.says("all of section 1, what is WRITTEN are as ahead of them");
        int[][] arguments = {{7, 7, 0}, {9, 7, 255}, {19}, {19, 7, 0}, {19, 255, 255}, {19, 7}, {9, 7, 255}};
        String[] deeds = {"cell", "start", "drop", "map", "marks", "gate", "write"};
        for (int round = 0; round < 3; round++) {
            for (int i = 0; i < deeds.length; i++) {
                Counted x = greatest();
                x.call(deeds[i], arguments[i]);
                check.holds(deeds[i] + " changes the last", !farEnd(x).equals(farEnd(greatest())));
                if (round == 0) {
                    due(deeds[i] + ": undo", x.undo(1), 20);
                } else if (round == 1) {
                    due(deeds[i] + ": goBack", x.goBack(0), 1);
                } else {
                    String then = farEnd(x);
                    x.keep(1);
                    x.build(0, 1, 0);
                    due(deeds[i] + ": goBack", x.goBack(1), 1);
                    check.holds(deeds[i] + " is in the IMAGE", farEnd(x).equals(then));
                    x.goBack(0);
                }
                check.holds(deeds[i] + " is undone", farEnd(x).equals(farEnd(greatest())));
            }
        }
    }

    private static String farEnd(Counted x) {
        StringBuilder seen = new StringBuilder();
        seen.append(x.joined(7, 7)).append(' ').append(x.mapped(19, 7));
        for (int what = 0; what <= 8; what++) {
            seen.append(' ').append(x.wayAt(19, what)).append(' ').append(x.place(9, what));
        }
        return seen.toString();
    }

    private static void seedStays() {
        check.says("all of section 1, what is WRITTEN are as ahead of them; THE SEED stays.");
        Counted x = new Counted();
        x.seed(100);
        x.drift(2);
        due("undo", x.undo(2), 0);
        int seed = x.seed(0);
        due("THE SEED stays", seed, (int) after(100, 10));
        x.seed(seed);
        x.drift(1);
        due("other DRAWS than the first time", x.wayAt(0, 0), draw(100, 11, 4));
        due("other DRAWS than the first time", x.wayAt(0, 1), draw(100, 12, 4));
        x.seed(3);
        x.start(0, 1, 0);
        x.seed(4);
        x.undo(1);
        due("THE SEED that was told stays", x.seed(0), 4);
    }

    // ---- IMAGES

    private static void imagesKeepThese() {
        check.says("IMAGES 0, 1 keep these, THE SEED.");
        Counted x = ring();
        String ring = seen(x);
        x.note(0, 1, 1);
        x.build(2, 8, 10);
        x.seed(55);
        x.keep(1);
        due("goBack(0)", x.goBack(0), 1);
        check.holds("all of section 1 and what is WRITTEN", seen(x).equals(ring));
        due("THE SEED", x.seed(1), 7);
        due("THE BOOK stays", x.told(10), 1);
        due("goBack(1)", x.goBack(1), 1);
        due("M", x.told(0), 8);
        due("PLACES", x.told(1), 10);
        due("THE SEED", x.seed(1), 55);
        x.tear();
        due("goBack(1)", x.goBack(1), 1);
        due("THE BOOK stays empty", x.told(10), 0);
        due("THE SEED again", x.seed(1), 55);
    }

    private static void imageThatIsNotKept() {
        check.says("UNKNOWN, NOT: it was not kept.");
        Counted x = new Counted();
        due("goBack(0)", x.goBack(0), NOT);
        due("goBack(1)", x.goBack(1), NOT);
        due("goBack(2)", x.goBack(2), UNKNOWN);
        due("goBack(-1)", x.goBack(-1), UNKNOWN);
        x.start(0, 1, 1);
        x.keep(1);
        due("goBack(0)", x.goBack(0), NOT);
        due("goBack(1)", x.goBack(1), 1);
        due("IMAGE 1", x.place(0, 1), 1);
        Counted other = new Counted();
        other.keep(0);
        due("goBack(1)", other.goBack(1), NOT);
        due("goBack(0)", other.goBack(0), 1);
        due("goBack(0) again", other.goBack(0), 1);
    }

    private static void imagesOverOneAnother() {
        check.says("IMAGE i becomes what is so (nothing can be undone then): 1. UNKNOWN.");
        Counted x = new Counted();
        x.start(0, 1, 1);
        due("keep(0)", x.keep(0), 1);
        x.start(0, 1, 2);
        due("keep(1)", x.keep(1), 1);
        x.start(0, 1, 3);
        due("keep(0) over it", x.keep(0), 1);
        x.start(0, 1, 4);
        due("goBack(1)", x.goBack(1), 1);
        due("IMAGE 1", x.place(0, 1), 2);
        x.start(0, 1, 5);
        due("goBack(0)", x.goBack(0), 1);
        due("the later IMAGE 0", x.place(0, 1), 3);
        x.goBack(1);
        due("IMAGE 0 becomes IMAGE 1", x.keep(0), 1);
        x.build(0, 1, 0);
        x.goBack(0);
        due("IMAGE 0", x.place(0, 1), 2);
        due("keep(-1)", x.keep(-1), UNKNOWN);
        due("keep(2)", x.keep(2), UNKNOWN);
        // an IMAGE of nothing is one, too
        x.build(0, 1, 0);
        due("keep of nothing", x.keep(1), 1);
        x.goBack(0);
        due("goBack to nothing", x.goBack(1), 1);
        due("no PLACES", x.told(1), 0);
        due("M 1", x.told(0), 1);
    }
}
