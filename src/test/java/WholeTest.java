import java.io.IOException;
import java.util.ArrayList;
import java.util.List;
import java.util.Random;

/**
 * What the document says it is, ahead of all numbers: each part of its first sentence, looked at in webs by chance in
 * which ALL IS WELL. What is due is found from other answers of the class, by no other way to find what is KNOWN.
 */
public final class WholeTest {
    private static final int NONE = FixedFacts.NONE, RUNS = 400;

    private static Check check;

    public static void main(String[] args) throws IOException {
        check = new Check("WholeTest");
        theLeastThatHolds();
        whatWaysMake();
        orderOfATable();
        threeChoices();
        writtenDownAndFoundAgain();
        theJudge();
        toldAndUndone();
        lawsAndWays();
        wereOneWayNotThere();
        booksJudged();
        websByDraws();
        imagesToGoOnFrom();
        check.end();
    }

    private static void due(String call, int got, int want) {
        check.due(call, got, want);
    }

    // ---- webs by chance; the same number always makes the same one

    private static Counted web(int run) {
        Random random = new Random(run);
        int order = random.nextInt(3), m = order == 2 ? 8 : 1 + random.nextInt(8), places = 1 + random.nextInt(10);
        Counted x = new Counted();
        x.build(order, m, places);
        int ways = random.nextInt(13);
        for (int w = 0; w < ways; w++) {
            x.way(random.nextInt(places), random.nextInt(places));
            x.marks(w, random.nextInt(256) & random.nextInt(256), random.nextInt(256) & random.nextInt(256));
            if (random.nextInt(3) == 0) {
                x.gate(w, random.nextInt(m));
            }
            if (random.nextInt(2) == 0) {
                makeMap(x, w, inOrder(random, order, m));
            }
        }
        for (int p = 0; p < places; p++) {
            if (random.nextInt(2) == 0) {
                x.start(p, random.nextInt(m), random.nextInt(256) & random.nextInt(256));
            }
        }
        due("web " + run + " is well", x.told(5), 1);
        return x;
    }

    private static void makeMap(Counted x, int w, int[] map) {
        for (int v = 0; v < map.length; v++) {
            if (map[v] != v) {
                x.map(w, v, map[v]);
            }
        }
    }

    /** A MAP that keeps the ORDER: of a chain one that rises, of bits some more and some less, of a fan others in between. */
    private static int[] inOrder(Random random, int order, int m) {
        int[] map = new int[m];
        int more = random.nextInt(m), less = random.nextInt(m), turn = random.nextInt(m);
        for (int v = 0; v < m; v++) {
            boolean isBetween = v > 0 && v < m - 1;
            map[v] = switch (order) {
                case 0 -> Math.max(more, Math.max(0, v - less));
                case 1 -> isBetween ? 1 + (v - 1 + turn) % (m - 2) : v;
                default -> v & less | more;
            };
        }
        return map;
    }

    private static int known(Counted x, int p) {
        return 256 * x.place(p, 2) + x.place(p, 3);
    }

    private static int rebuilt(Counted x, int p) {
        return 256 * x.place(p, 4) + x.place(p, 5);
    }

    private static List<Integer> knownEverywhere(Counted x) {
        List<Integer> known = new ArrayList<>();
        int places = x.told(1);
        for (int p = 0; p < places; p++) {
            known.add(known(x, p));
        }
        return known;
    }

    private static boolean isNoMore(Counted x, int fact, int than) {
        return x.below(fact / 256, than / 256) == 1 && (fact % 256 | than % 256) == than % 256;
    }

    // ---- the sentence, part by part

    /** That it is the least of all is looked at in ModelTest, in webs that are small enough to go through. */
    private static void theLeastThatHolds() {
        check.says("What is known at each place of a web, found as the least that holds: places, ways between them,");
        for (int run = 0; run < RUNS; run++) {
            Counted x = web(run);
            int places = x.told(1), ways = x.told(2);
            for (int p = 0; p < places; p++) {
                int value = x.place(p, 0), set = x.place(p, 1);
                for (int w = 0; w < ways; w++) {
                    if (x.wayAt(w, 1) == p) {
                        value = x.joined(value, x.wayAt(w, 7));
                        set |= x.wayAt(w, 8);
                    }
                }
                due("web " + run + ": no more and no less than comes to PLACE " + p, known(x, p), 256 * value + set);
            }
        }
    }

    private static void whatWaysMake() {
        check.says("each of which makes something of what is known where it begins, and is open only if enough is known there;");
        int closed = 0, open = 0;
        for (int run = 0; run < RUNS; run++) {
            Counted x = web(run);
            int ways = x.told(2);
            for (int w = 0; w < ways; w++) {
                int there = known(x, x.wayAt(w, 0));
                boolean isOpen = x.below(x.wayAt(w, 4), there / 256) == 1;
                closed += isOpen ? 0 : 1;
                open += isOpen ? 1 : 0;
                int left = there % 256 & 255 - x.wayAt(w, 3) | x.wayAt(w, 2);
                due("web " + run + ": VALUE of WAY " + w, x.wayAt(w, 7), isOpen ? x.mapped(w, there / 256) : 0);
                due("web " + run + ": SET of WAY " + w, x.wayAt(w, 8), isOpen ? left : 0);
            }
        }
        check.holds("some are open, some closed: " + open + ", " + closed, open > 100 && closed > 100);
    }

    private static void orderOfATable() {
        check.says("what may be known are values of a small order that is told by a table and looked at, whether it is one, "
                + "and a set of marks besides;");
        int orders = 0, others = 0;
        for (int run = 0; run < RUNS; run++) {
            Random random = new Random(run);
            Counted x = new Counted();
            int m = 2 + random.nextInt(3);
            x.build(random.nextInt(2), m, 0);
            for (int k = 0; k < 2; k++) {
                int a = random.nextInt(m), b = random.nextInt(m), v = random.nextInt(m);
                x.cell(a, b, v);
                x.cell(b, a, v);
            }
            boolean isOrder = x.told(3) == 0;
            orders += isOrder ? 1 : 0;
            others += isOrder ? 0 : 1;
            due("web " + run + ": a table is an order just if JOINED is the least above both", isOrder ? 1 : 0,
                    isOrderWithLeastAbove(x, m) ? 1 : 0);
        }
        check.holds("some are orders, some not: " + orders + ", " + others, orders > 50 && others > 50);
        Counted marks = new Counted();
        marks.build(0, 1, 1);
        marks.start(0, 0, 129);
        due("a set of marks besides one VALUE", known(marks, 0), 129);
    }

    /** BELOW is an order, 0 the least of it, and of any two the table tells the least that both are BELOW. */
    private static boolean isOrderWithLeastAbove(Counted x, int m) {
        for (int a = 0; a < m; a++) {
            if (x.below(a, a) != 1 || x.below(0, a) != 1) {
                return false;
            }
            for (int b = 0; b < m; b++) {
                int both = x.joined(a, b);
                boolean isAbove = x.below(a, both) == 1 && x.below(b, both) == 1;
                boolean isTwin = a != b && x.below(a, b) == 1 && x.below(b, a) == 1;
                if (!isAbove || isTwin || !isLeastAbove(x, m, a, b, both)) {
                    return false;
                }
            }
        }
        return true;
    }

    private static boolean isLeastAbove(Counted x, int m, int a, int b, int both) {
        for (int c = 0; c < m; c++) {
            if (x.below(a, c) == 1 && x.below(b, c) == 1 && x.below(both, c) != 1) {
                return false;
            }
        }
        return true;
    }

    private static void threeChoices() {
        check.says("all is worked from nothing on, place by place, by one of three ways to choose the next, and comes to the same;");
        int differing = 0;
        for (int run = 0; run < RUNS; run++) {
            Counted x = web(run);
            int places = x.told(1);
            for (int choice = 0; choice < 3; choice++) {
                int steps = x.steps(choice);
                check.holds("web " + run + ": CHOICE " + choice + " takes each PLACE once or more and ends", steps >= places);
                differing += steps == x.steps(0) ? 0 : 1;
                for (int p = 0; p < places; p++) {
                    due("web " + run + ": CHOICE " + choice + " at PLACE " + p, x.worked(choice, p), known(x, p));
                }
            }
        }
        check.holds("not by the same steps: " + differing, differing > 100);
    }

    private static void writtenDownAndFoundAgain() {
        check.says("of it so much is written down as is needed to find the rest again in one pass,");
        int written = 0, found = 0;
        for (int run = 0; run < RUNS; run++) {
            Counted x = web(run);
            int places = x.told(1), kept = x.told(6);
            due("web " + run + ": so much is written down", x.copy(), Integer.bitCount(kept));
            written += Integer.bitCount(kept);
            found += places - Integer.bitCount(kept);
            for (int p = 0; p < places; p++) {
                due("web " + run + ": PLACE " + p + " is found again", rebuilt(x, p), known(x, p));
            }
            due("web " + run + ": it is TAKEN", x.told(7), NONE);
            due("web " + run + ": it is EXACT", x.told(8), 1);
        }
        check.holds("some are written down, some found: " + written + ", " + found, written > 100 && found > 100);
    }

    private static void theJudge() {
        check.says("and a small judge looks at what is written down, by anybody, once through, and takes it only if it is no less "
                + "than what holds;");
        int taken = 0, refused = 0, more = 0;
        for (int run = 0; run < RUNS; run++) {
            Random random = new Random(run);
            Counted x = web(run);
            int m = x.told(0), places = x.told(1);
            x.copy();
            for (int k = 0; k < 6; k++) {
                // a VALUE that is above what is KNOWN, or any
                int p = random.nextInt(places), any = random.nextInt(m), set = x.place(p, 3);
                int value = random.nextInt(3) > 0 ? x.joined(x.place(p, 2), any) : any;
                x.write(p, value, random.nextInt(3) > 0 ? set | random.nextInt(256) : random.nextInt(256));
            }
            boolean isTaken = x.told(7) == NONE;
            taken += isTaken ? 1 : 0;
            refused += isTaken ? 0 : 1;
            for (int p = 0; p < places && isTaken; p++) {
                check.holds("web " + run + ": what is TAKEN is no less at PLACE " + p, isNoMore(x, known(x, p), rebuilt(x, p)));
                more += known(x, p) == rebuilt(x, p) ? 0 : 1;
            }
        }
        check.holds("some are taken, some refused, some are more: " + taken + ", " + refused + ", " + more,
                taken > 50 && refused > 50 && more > 50);
    }

    private static void toldAndUndone() {
        check.says("values, tables, places, ways, marks told, undone;");
        for (int run = 0; run < RUNS; run++) {
            Random random = new Random(run);
            Counted x = web(run);
            List<List<Integer>> seen = new ArrayList<>();
            x.keep(0);
            int deeds = 0;
            for (int k = 0; k < 6; k++) {
                seen.add(knownEverywhere(x));
                deed(x, random);
                deeds++;
                if (x.told(12) < deeds) {
                    // it was refused
                    deeds--;
                    seen.remove(deeds);
                }
            }
            while (deeds > 0) {
                x.undo(1);
                deeds--;
                check.holds("web " + run + " as it was ahead of deed " + deeds, knownEverywhere(x).equals(seen.get(deeds)));
            }
        }
    }

    private static void deed(Counted x, Random random) {
        int a = random.nextInt(10), b = random.nextInt(10), v = random.nextInt(8), set = random.nextInt(256);
        switch (random.nextInt(10)) {
            case 0 -> x.build(random.nextInt(3), 1 + v, 1 + random.nextInt(4));
            case 1 -> x.cell(v, random.nextInt(8), random.nextInt(8));
            case 2, 3 -> x.start(a, v, set);
            case 4, 5 -> x.way(a, b);
            case 6 -> x.drop(a);
            case 7 -> x.map(a, v, random.nextInt(8));
            case 8 -> x.marks(a, set, random.nextInt(256));
            default -> x.gate(a, v);
        }
    }

    private static void lawsAndWays() {
        check.says("laws that a table breaks, ways that do not keep the order;");
        for (int run = 0; run < RUNS; run++) {
            Random random = new Random(run);
            Counted x = web(run);
            int m = x.told(0), ways = x.told(2);
            due("web " + run + ": no LAW is BROKEN", x.told(3), 0);
            due("web " + run + ": all WAYS KEEP ORDER", x.told(4), NONE);
            if (m > 1 && ways > 0) {
                int w = random.nextInt(ways);
                x.map(w, 0, m - 1);
                x.map(w, m - 1, 0);
                due("web " + run + ": the least becomes the greatest", x.told(4), w);
                due("web " + run + ": not well", x.told(5), 0);
                due("web " + run + ": a LAW", x.cell(m - 1, m - 1, 0), 1);
            }
        }
    }

    private static void wereOneWayNotThere() {
        check.says("steps, what would be, were one way not there; which ways matter;");
        int mattering = 0, idle = 0;
        for (int run = 0; run < RUNS; run++) {
            Counted asked = web(run);
            int matters = asked.told(9), ways = asked.told(2);
            List<Integer> with = knownEverywhere(asked);
            for (int w = 0; w < ways; w++) {
                Counted x = web(run);
                x.drop(w);
                List<Integer> without = knownEverywhere(x);
                int otherwise = 0;
                for (int p = 0; p < with.size(); p++) {
                    otherwise += with.get(p).equals(without.get(p)) ? 0 : 1;
                }
                due("web " + run + ": WITHOUT WAY " + w, asked.wayAt(w, 6), otherwise);
                due("web " + run + ": WAY " + w + " MATTERS", matters >> w & 1, otherwise > 0 ? 1 : 0);
                mattering += otherwise > 0 ? 1 : 0;
                idle += otherwise > 0 ? 0 : 1;
            }
            due("web " + run + ": no other MATTERS", matters >> ways, 0);
        }
        check.holds("some matter, some do not: " + mattering + ", " + idle, mattering > 100 && idle > 100);
    }

    private static void booksJudged() {
        check.says("books of values judged;");
        for (int run = 0; run < RUNS; run++) {
            Random random = new Random(run);
            Counted x = web(run);
            List<Integer> before = knownEverywhere(x);
            for (int p = 0; p < before.size(); p++) {
                x.note(p, before.get(p) / 256, before.get(p) % 256);
            }
            due("web " + run + ": all is so", x.told(11), NONE);
            x.start(random.nextInt(before.size()), random.nextInt(x.told(0)), random.nextInt(256));
            List<Integer> now = knownEverywhere(x);
            int first = 0;
            while (first < now.size() && now.get(first).equals(before.get(first))) {
                first++;
            }
            due("web " + run + ": the first that is otherwise", x.told(11), first == now.size() ? NONE : first);
        }
    }

    private static void websByDraws() {
        check.says("webs by draws;");
        for (int run = 0; run < 50; run++) {
            List<List<Integer>> webs = new ArrayList<>();
            for (int time = 0; time < 3; time++) {
                Counted x = new Counted();
                x.build(run % 3, 8, 1 + run % 10);
                x.seed(run + time / 2);
                due("WAYS", x.drift(12), 12);
                List<Integer> web = new ArrayList<>();
                for (int w = 0; w < 12; w++) {
                    for (int what = 0; what <= 4; what++) {
                        web.add(x.wayAt(w, what));
                    }
                }
                webs.add(web);
            }
            check.holds("the same by the same SEED: " + run, webs.get(0).equals(webs.get(1)));
            check.holds("another by another SEED: " + run, !webs.get(1).equals(webs.get(2)));
        }
    }

    private static void imagesToGoOnFrom() {
        check.says("images to go on from.");
        for (int run = 0; run < RUNS; run++) {
            Counted x = web(run);
            x.seed(run);
            x.keep(run % 2);
            List<List<Integer>> ends = new ArrayList<>();
            for (int time = 0; time < 2; time++) {
                Random random = new Random(run);
                x.drift(2);
                for (int k = 0; k < 20; k++) {
                    deed(x, random);
                }
                x.drift(3);
                ends.add(knownEverywhere(x));
                due("web " + run + ": goBack", x.goBack(run % 2), 1);
            }
            check.holds("web " + run + ": the same deeds come to the same", ends.get(0).equals(ends.get(1)));
            check.holds("web " + run + ": back as it was", knownEverywhere(x).equals(knownEverywhere(web(run))));
        }
    }
}
