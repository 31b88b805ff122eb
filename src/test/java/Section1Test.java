import java.io.IOException;

/** Section 1 of the document (and what stands ahead of it), a test for each sentence that names a boundary case. */
public final class Section1Test {
    private static final int NONE = FixedFacts.NONE, UNKNOWN = FixedFacts.UNKNOWN, OUTSIDE = FixedFacts.OUTSIDE,
            NOT = FixedFacts.NOT, FULL = FixedFacts.FULL;

    private static Check check;

    public static void main(String[] args) throws IOException {
        check = new Check("Section1Test");
        theLastOf512Calls();
        numbersFrom0();
        setsBitByBit();
        refusalsAreFarBelow();
        valuesFrom0ToMLess1();
        ordersToBeginWith();
        fanOfFewValues();
        bitsWhateverM();
        atFirst();
        tableCellByCell();
        law1();
        law2();
        law3();
        law4();
        theLeastLawThatIsBroken();
        allTablesOfThree();
        placesAndStarts();
        waysAsTheyCame();
        waysToTheSamePlace();
        aWayAtFirst();
        laterWaysHaveOneNumberLess();
        keepsOrder();
        keepsOrderOfABrokenTable();
        aClosedWayBringsNothing();
        anOpenWay();
        gateOfABrokenTable();
        noMore();
        together();
        togetherInABrokenTable();
        built();
        builtAndBuiltAgain();
        check.end();
    }

    private static void due(String call, int got, int want) {
        check.due(call, got, want);
    }

    private static Counted web(int order, int m, int places) {
        Counted x = new Counted();
        due("build(" + order + ", " + m + ", " + places + ")", x.build(order, m, places), 0);
        return x;
    }

    // ---- ahead of section 1

    private static void theLastOf512Calls() {
        check.says("An object is used for at most 512 calls after it has been made");
        Counted deeds = new Counted();
        for (int k = 1; k < Counted.MOST_CALLS; k++) {
            due("call " + k, deeds.start(3, k % 4, k % 256), 1);
        }
        due("call 512", deeds.place(3, 1), 511 % 256);
        Counted ways = new Counted();
        for (int k = 1; k < Counted.MOST_CALLS; k++) {
            due("call " + k, k % 2 == 1 ? ways.way(1, 2) : ways.drop(0), 0);
        }
        due("call 512", ways.undo(16), 1);
        Counted mixed = new Counted();
        for (int k = 0; k < 102; k++) {
            mixed.drift(16);
            mixed.keep(k % 2);
            mixed.undo(1);
            mixed.build(k % 3, 1 + k % 8, 1 + k % 10);
            mixed.goBack(k % 2);
        }
        due("call 511", mixed.told(2), 20);
        due("call 512", mixed.undo(1), NOT);
        due("calls", mixed.calls(), 512);
    }

    private static void numbersFrom0() {
        check.says("What has a number has it from 0 on.");
        Counted x = new Counted();
        due("VALUE 0", x.joined(0, 0), 0);
        due("PLACE 0", x.place(0, 0), 0);
        due("no WAY 0 yet", x.wayAt(0, 0), UNKNOWN);
        due("the first WAY", x.way(3, 1), 0);
        due("WAY 0", x.wayAt(0, 0), 3);
        due("no WAY 1 yet", x.wayAt(1, 0), UNKNOWN);
        due("the first entry", x.note(0, 1, 0), 1);
        due("entry 0 is WRONG", x.told(11), 0);
        due("IMAGE 0", x.keep(0), 1);
        due("IMAGE 1", x.keep(1), 1);
        due("no IMAGE 2", x.keep(2), UNKNOWN);
        due("no VALUE -1", x.joined(-1, 0), UNKNOWN);
        due("no PLACE -1", x.place(-1, 0), UNKNOWN);
        due("no WAY -1", x.wayAt(-1, 0), UNKNOWN);
        due("no IMAGE -1", x.keep(-1), UNKNOWN);
    }

    private static void setsBitByBit() {
        check.says("A SET is a whole number, bit k for k.");
        Counted x = web(0, 2, 10);
        x.way(9, 9);
        due("PLACE 9 is KEPT", x.told(6), 512);
        x.way(0, 0);
        due("PLACES 0, 9 are KEPT", x.told(6), 513);
        Counted matters = web(0, 2, 2);
        for (int w = 0; w < 19; w++) {
            matters.way(0, 0);
        }
        matters.start(0, 1, 0);
        matters.way(0, 1);
        due("WAY 19 MATTERS", matters.told(9), 1 << 19);
        Counted marks = web(0, 1, 2);
        marks.way(0, 1);
        marks.marks(0, 128, 1);
        marks.start(0, 0, 1);
        due("mark 7", marks.place(1, 3), 128);
        due("mark 0", marks.place(0, 3), 1);
    }

    private static void refusalsAreFarBelow() {
        check.says("They are far below all that is counted: -1000000001 and on.");
        due("UNKNOWN", UNKNOWN, -1000000001);
        due("OUTSIDE", OUTSIDE, -1000000002);
        due("NOT", NOT, -1000000003);
        due("FULL", FULL, -1000000004);
        check.says("NONE is -1.");
        due("NONE", NONE, -1);
    }

    // ---- VALUES, THE TABLE

    private static void valuesFrom0ToMLess1() {
        check.says("VALUES 0 .. M less 1 (M 1 .. 8).");
        due("M 0", new Counted().build(0, 0, 4), OUTSIDE);
        due("M 9", new Counted().build(0, 9, 4), OUTSIDE);
        for (int m = 1; m <= 8; m++) {
            Counted x = web(0, m, 2);
            x.way(1, 0);
            due("M", x.told(0), m);
            for (int wrong : new int[] {-1, m}) {
                due("joined", x.joined(wrong, 0), UNKNOWN);
                due("joined", x.joined(0, wrong), UNKNOWN);
                due("below", x.below(wrong, 0), UNKNOWN);
                due("below", x.below(0, wrong), UNKNOWN);
                due("mapped", x.mapped(0, wrong), UNKNOWN);
                due("cell", x.cell(wrong, 0, 0), UNKNOWN);
                due("cell", x.cell(0, wrong, 0), UNKNOWN);
                due("cell", x.cell(0, 0, wrong), UNKNOWN);
                due("start", x.start(0, wrong, 0), UNKNOWN);
                due("map", x.map(0, wrong, 0), UNKNOWN);
                due("map", x.map(0, 0, wrong), UNKNOWN);
                due("gate", x.gate(0, wrong), UNKNOWN);
                due("write", x.write(0, wrong, 0), UNKNOWN);
                due("note", x.note(0, wrong, 0), UNKNOWN);
            }
            int top = m - 1;
            due("joined", x.joined(top, top), top);
            due("below", x.below(top, top), 1);
            due("mapped", x.mapped(0, top), top);
            due("start", x.start(1, top, 0), 1);
            due("map", x.map(0, top, top), top);
            due("gate", x.gate(0, top), 0);
            due("gate", x.wayAt(0, 4), top);
            due("write", x.write(0, top, 0), NONE);
            due("note", x.note(0, top, 0), 1);
            due("cell", x.cell(top, top, top), 0);
            due("known", x.place(0, 2), top);
        }
    }

    private static void ordersToBeginWith() {
        check.says("ORDERS to begin with: 0 a chain (the greater), 1 a fan (0 with v is v, unlike ones are M less 1), "
                + "2 bits (M is 8: or, bit by bit).");
        due("ORDER -1", new Counted().build(-1, 4, 4), OUTSIDE);
        due("ORDER 3", new Counted().build(3, 4, 4), OUTSIDE);
        for (int order = 0; order <= 2; order++) {
            for (int m = 1; m <= 8; m++) {
                Counted x = web(order, m, 0);
                int values = order == 2 ? 8 : m;
                for (int a = 0; a < values; a++) {
                    for (int b = 0; b < values; b++) {
                        due("ORDER " + order + ", M " + m + ": joined(" + a + ", " + b + ")", x.joined(a, b),
                                joinedBy(order, values, a, b));
                    }
                }
                due("all LAWS hold", x.told(3), 0);
            }
        }
    }

    private static int joinedBy(int order, int m, int a, int b) {
        if (order == 2) {
            return (a % 2 + b % 2 + 1) / 2 + 2 * ((a / 2 % 2 + b / 2 % 2 + 1) / 2) + 4 * ((a / 4 + b / 4 + 1) / 2);
        }
        if (a == b || b == 0) {
            return a;
        }
        if (a == 0) {
            return b;
        }
        return order == 1 ? m - 1 : a > b ? a : b;
    }

    private static void fanOfFewValues() {
        check.says("1 a fan (0 with v is v, unlike ones are M less 1)");
        Counted one = web(1, 1, 1);
        due("M 1: 0 is all", one.joined(0, 0), 0);
        due("M 1: no more", one.joined(0, 1), UNKNOWN);
        Counted two = web(1, 2, 1);
        due("M 2: 1 with itself", two.joined(1, 1), 1);
        due("M 2: 0 with 1", two.joined(0, 1), 1);
        due("M 2: 1 with 0", two.joined(1, 0), 1);
        Counted three = web(1, 3, 1);
        due("M 3: unlike ones", three.joined(1, 2), 2);
        due("M 3: unlike ones", three.joined(2, 1), 2);
        due("M 3: 1 with itself", three.joined(1, 1), 1);
        Counted four = web(1, 4, 1);
        due("M 4: unlike ones", four.joined(1, 2), 3);
        due("M 4: 2 with itself", four.joined(2, 2), 2);
        due("M 4: 1 is not BELOW 2", four.below(1, 2), 0);
        due("M 4: 2 is not BELOW 1", four.below(2, 1), 0);
        due("M 4: 1 is BELOW 3", four.below(1, 3), 1);
    }

    private static void bitsWhateverM() {
        check.says("BUILT: an ORDER, M (2: M is 8), PLACES");
        for (int m = 1; m <= 8; m++) {
            Counted x = web(2, m, 1);
            due("M", x.told(0), 8);
            due("1 with 6", x.joined(1, 6), 7);
            due("VALUE 7", x.start(0, 7, 0), 1);
            due("VALUE 8", x.start(0, 8, 0), UNKNOWN);
        }
        Counted x = new Counted();
        due("M 0 is out of its bounds all the same", x.build(2, 0, 1), OUTSIDE);
        due("M 9 is out of its bounds all the same", x.build(2, 9, 1), OUTSIDE);
        due("M stays", x.told(0), 4);
    }

    private static void atFirst() {
        check.says("(At first: ORDER 0, M 4.)");
        Counted x = new Counted();
        due("M", x.told(0), 4);
        for (int a = 0; a < 4; a++) {
            for (int b = 0; b < 4; b++) {
                due("joined(" + a + ", " + b + ")", x.joined(a, b), a > b ? a : b);
            }
        }
        due("VALUE 4", x.joined(4, 0), UNKNOWN);
    }

    private static void tableCellByCell() {
        check.says("THE TABLE tells of two VALUES what both are JOINED.");
        Counted two = web(0, 4, 0);
        two.cell(1, 3, 2);
        due("1 with 3", two.joined(1, 3), 2);
        due("3 with 1 is another cell", two.joined(3, 1), 3);
        check.says("THE TABLE may be told cell by cell.");
        for (int cell = 0; cell < 64; cell++) {
            int a = cell / 8, b = cell % 8, v = (joinedBy(2, 8, a, b) + 1 + cell) % 8;
            Counted x = web(2, 8, 0);
            x.cell(a, b, v);
            for (int other = 0; other < 64; other++) {
                due("joined", x.joined(other / 8, other % 8), other == cell ? v : other / 8 | other % 8);
            }
        }
    }

    // ---- LAWS

    private static void law1() {
        check.says("LAWS: 1 a JOINED a is a");
        for (int m = 2; m <= 8; m++) {
            due("the least VALUE", web(0, m, 1).cell(0, 0, m - 1), 1);
            due("the greatest VALUE", web(0, m, 1).cell(m - 1, m - 1, 0), 1);
            due("one less than the greatest", web(1, m, 1).cell(m - 1, m - 1, m - 2), 1);
        }
        due("M 1: nothing can be broken", web(0, 1, 1).cell(0, 0, 0), 0);
    }

    private static void law2() {
        check.says("2 a JOINED b is b JOINED a");
        for (int m = 2; m <= 8; m++) {
            due("the last cell of the first row", web(0, m, 1).cell(0, m - 1, 0), 2);
            due("the first cell of the last row", web(0, m, 1).cell(m - 1, 0, 0), 2);
            due("next to the last cell", web(0, m, 1).cell(m - 1, m - 2, m - 2), 2);
            due("above the last cell", web(0, m, 1).cell(m - 2, m - 1, m - 2), 2);
        }
    }

    private static void law3() {
        check.says("3 (a JOINED b) JOINED c is a JOINED (b JOINED c)");
        for (int m = 3; m <= 8; m++) {
            Counted x = web(0, m, 1);
            due("one of two", x.cell(m - 2, m - 1, 0), 2);
            due("the last two make 0, with 0 themselves", x.cell(m - 1, m - 2, 0), 3);
            due("LAW 4 holds still", x.joined(0, m - 1), m - 1);
        }
    }

    private static void law4() {
        check.says("4 0 JOINED a is a");
        for (int m = 2; m <= 8; m++) {
            Counted x = web(0, m, 1);
            due("one of two", x.cell(0, 1, 0), 2);
            due("1 is the least now", x.cell(1, 0, 0), 4);
            due("told", x.told(3), 4);
        }
    }

    private static void theLeastLawThatIsBroken() {
        check.says("BROKEN: the least LAW that does not hold; 0: all hold.");
        Counted x = web(0, 3, 1);
        due("all hold", x.told(3), 0);
        x.cell(0, 2, 0);
        due("2 and 4", x.told(3), 2);
        x.cell(2, 0, 0);
        due("3 and 4: 0 with 2 is 0, with 1 it is 1, 1 with 2 is 2", x.told(3), 3);
        x.cell(1, 2, 1);
        due("2, 3 and 4", x.told(3), 2);
        x.cell(1, 1, 0);
        due("all of them", x.told(3), 1);
        x.cell(1, 1, 1);
        x.cell(2, 1, 1);
        due("2, 0, 1 is a chain: 4 alone", x.told(3), 4);
        x.cell(0, 2, 2);
        x.cell(2, 0, 2);
        due("0, 2, 1 is a chain: all hold", x.told(3), 0);
    }

    /** Every TABLE of 1, 2 and 3 VALUES against the words of the LAWS. */
    private static void allTablesOfThree() {
        check.says("BELOW: a is BELOW b, if a JOINED b is b.");
        for (int m = 1; m <= 3; m++) {
            int tables = (int) Math.pow(m, m * m);
            for (int number = 0; number < tables; number++) {
                Counted x = web(0, m, 0);
                int[][] table = new int[m][m];
                int broken = NONE;
                for (int cell = 0, rest = number; cell < m * m; cell++, rest /= m) {
                    table[cell / m][cell % m] = rest % m;
                    broken = x.cell(cell / m, cell % m, rest % m);
                }
                due("BROKEN of table " + number, broken, brokenBy(table, m));
                due("told(3) of table " + number, x.told(3), brokenBy(table, m));
                for (int a = 0; a < m; a++) {
                    for (int b = 0; b < m; b++) {
                        due("below of table " + number, x.below(a, b), table[a][b] == b ? 1 : 0);
                    }
                }
            }
        }
    }

    private static int brokenBy(int[][] table, int m) {
        boolean[] broken = new boolean[5];
        for (int a = 0; a < m; a++) {
            broken[1] |= table[a][a] != a;
            broken[4] |= table[0][a] != a;
            for (int b = 0; b < m; b++) {
                broken[2] |= table[a][b] != table[b][a];
                for (int c = 0; c < m; c++) {
                    broken[3] |= table[table[a][b]][c] != table[a][table[b][c]];
                }
            }
        }
        return broken[1] ? 1 : broken[2] ? 2 : broken[3] ? 3 : broken[4] ? 4 : 0;
    }

    // ---- PLACES, WAYS

    private static void placesAndStarts() {
        check.says("PLACES (0 .. 10; 4 at first) have START: a VALUE (0 at first) and a SET of MARKS (8 of them; 0 at first).");
        due("PLACES -1", new Counted().build(0, 4, -1), OUTSIDE);
        due("PLACES 11", new Counted().build(0, 4, 11), OUTSIDE);
        due("at first", new Counted().told(1), 4);
        due("at first: PLACE 3", new Counted().place(3, 0), 0);
        due("at first: PLACE 4", new Counted().place(4, 0), UNKNOWN);
        for (int places = 0; places <= 10; places++) {
            Counted x = web(0, 4, places);
            due("PLACES", x.told(1), places);
            for (int p = 0; p < places; p++) {
                due("VALUE of START", x.place(p, 0), 0);
                due("SET of START", x.place(p, 1), 0);
            }
            int last = places - 1;
            due("START behind the last PLACE", x.start(places, 0, 0), UNKNOWN);
            due("a WAY from behind the last PLACE", x.way(places, 0), UNKNOWN);
            due("a WAY to behind the last PLACE", x.way(0, places), UNKNOWN);
            due("an entry of behind the last PLACE", x.note(places, 0, 0), UNKNOWN);
            due("WRITTEN behind the last PLACE", x.write(places, 0, 0), UNKNOWN);
            due("worked behind the last PLACE", x.worked(0, places), UNKNOWN);
            due("SET 0", x.start(last, 0, 0), places == 0 ? UNKNOWN : 1);
            due("SET 255", x.start(last, 3, 255), places == 0 ? UNKNOWN : 1);
            due("SET 256", x.start(last, 3, 256), places == 0 ? UNKNOWN : OUTSIDE);
            due("SET -1", x.start(last, 3, -1), places == 0 ? UNKNOWN : OUTSIDE);
            due("SET that stays", x.place(last, 1), places == 0 ? UNKNOWN : 255);
        }
    }

    private static void waysAsTheyCame() {
        check.says("WAYS (20 at most; none at first) are numbered as they came");
        Counted x = new Counted();
        due("none at first", x.told(2), 0);
        for (int w = 0; w < 20; w++) {
            due("WAY " + w, x.way(w % 4, w / 4 % 4), w);
            due("WAYS", x.told(2), w + 1);
        }
        due("the 21st", x.way(0, 0), FULL);
        due("WAYS", x.told(2), 20);
        for (int w = 0; w < 20; w++) {
            due("from", x.wayAt(w, 0), w % 4);
            due("to", x.wayAt(w, 1), w / 4 % 4);
        }
        due("drop", x.drop(7), 19);
        due("room for one again", x.way(2, 3), 19);
        due("and no more", x.way(2, 3), FULL);
        due("undo of the one", x.undo(1), 19);
        due("room for one again", x.way(3, 2), 19);
        due("from", x.wayAt(19, 0), 3);
    }

    private static void waysToTheSamePlace() {
        check.says("from a PLACE to a PLACE (perhaps the same)");
        Counted x = web(0, 4, 10);
        due("PLACE 0", x.way(0, 0), 0);
        due("PLACE 9", x.way(9, 9), 1);
        due("once more the same", x.way(9, 9), 2);
        due("from", x.wayAt(2, 0), 9);
        due("to", x.wayAt(2, 1), 9);
    }

    private static void aWayAtFirst() {
        check.says("a MAP (of each VALUE a VALUE: itself at first), GIVES, TAKES (SETS of MARKS; 0 at first), "
                + "a GATE (a VALUE; 0 at first).");
        Counted x = web(2, 8, 2);
        for (int round = 0; round < 3; round++) {
            for (int w = 0; w < 2; w++) {
                x.way(w, 0);
                for (int v = 0; v < 8; v++) {
                    due("MAP at first", x.mapped(w, v), v);
                    x.map(w, v, 7 - v);
                }
                due("GIVES at first", x.wayAt(w, 2), 0);
                due("TAKES at first", x.wayAt(w, 3), 0);
                due("GATE at first", x.wayAt(w, 4), 0);
                x.marks(w, 255, 254);
                x.gate(w, 7);
            }
            // other WAYS come with these numbers, where those went
            if (round == 0) {
                x.drop(0);
                x.drop(0);
            } else {
                x.build(2, 8, 2);
            }
        }
        x.way(0, 0);
        due("all marks", x.marks(0, 255, 255), 1);
        due("GIVES 256", x.marks(0, 256, 0), OUTSIDE);
        due("GIVES -1", x.marks(0, -1, 0), OUTSIDE);
        due("TAKES 256", x.marks(0, 0, 256), OUTSIDE);
        due("TAKES -1", x.marks(0, 0, -1), OUTSIDE);
        due("GIVES that stay", x.wayAt(0, 2), 255);
        due("TAKES that stay", x.wayAt(0, 3), 255);
    }

    private static void laterWaysHaveOneNumberLess() {
        check.says("If a WAY goes, later ones have one number less.");
        for (int gone : new int[] {0, 1, 10, 18, 19}) {
            Counted x = web(2, 8, 10);
            for (int w = 0; w < 20; w++) {
                x.way(w % 10, w / 2);
                x.map(w, w % 8, (w + 3) % 8);
                x.marks(w, w, 40 + w);
                x.gate(w, w % 7);
            }
            due("drop(" + gone + ")", x.drop(gone), 19);
            for (int w = 0; w < 19; w++) {
                int was = w < gone ? w : w + 1;
                due("from", x.wayAt(w, 0), was % 10);
                due("to", x.wayAt(w, 1), was / 2);
                due("GIVES", x.wayAt(w, 2), was);
                due("TAKES", x.wayAt(w, 3), 40 + was);
                due("GATE", x.wayAt(w, 4), was % 7);
                for (int v = 0; v < 8; v++) {
                    due("MAP", x.mapped(w, v), v == was % 8 ? (was + 3) % 8 : v);
                }
            }
            due("no WAY 19", x.wayAt(19, 0), UNKNOWN);
        }
        Counted all = new Counted();
        for (int w = 0; w < 20; w++) {
            all.way(0, 1);
        }
        for (int left = 19; left >= 0; left--) {
            due("left", all.drop(0), left);
        }
        due("none is left", all.drop(0), UNKNOWN);
    }

    private static void keepsOrder() {
        check.says("KEEPS ORDER: of VALUES a BELOW b its MAP makes one of a that is BELOW that of b.");
        Counted one = web(0, 1, 1);
        one.way(0, 0);
        due("M 1", one.wayAt(0, 5), 1);
        Counted chain = web(0, 8, 1);
        chain.way(0, 0);
        chain.map(0, 6, 7);
        due("6 and 7 become 7", chain.wayAt(0, 5), 1);
        chain.map(0, 7, 6);
        due("6 becomes 7, 7 becomes 6", chain.wayAt(0, 5), 0);
        chain.map(0, 6, 6);
        due("6 and 7 become 6", chain.wayAt(0, 5), 1);
        chain.map(0, 0, 1);
        due("0 and 1 become 1", chain.wayAt(0, 5), 1);
        chain.map(0, 1, 0);
        due("0 becomes 1, 1 becomes 0", chain.wayAt(0, 5), 0);
        for (int v = 0; v < 8; v++) {
            chain.map(0, v, 5);
        }
        due("all become 5", chain.wayAt(0, 5), 1);
        chain.map(0, 0, 6);
        due("0 becomes 6, 7 becomes 5", chain.wayAt(0, 5), 0);
        Counted fan = web(1, 4, 1);
        fan.way(0, 0);
        fan.map(0, 1, 2);
        fan.map(0, 2, 1);
        due("unlike ones are in no order", fan.wayAt(0, 5), 1);
        fan.map(0, 0, 1);
        due("0 becomes 1, 1 becomes 2", fan.wayAt(0, 5), 0);
        due("the first of them", fan.told(4), 0);
        Counted bits = web(2, 8, 1);
        bits.way(0, 0);
        bits.map(0, 3, 7);
        due("1 and 2 are BELOW 7, 3 is BELOW 7", bits.wayAt(0, 5), 1);
        bits.map(0, 3, 5);
        due("2 is not BELOW 5", bits.wayAt(0, 5), 0);
    }

    private static void keepsOrderOfABrokenTable() {
        check.says("KEEPS ORDER: of VALUES a BELOW b its MAP makes one of a that is BELOW that of b.");
        Counted x = web(0, 2, 1);
        x.way(0, 0);
        x.map(0, 0, 1);
        due("both become 1, and 1 is BELOW 1", x.wayAt(0, 5), 1);
        x.cell(1, 1, 0);
        due("1 is not BELOW 1 now", x.wayAt(0, 5), 0);
        due("0 with 0 is BELOW itself", x.below(0, 0), 1);
        Counted least = web(0, 3, 1);
        least.way(0, 0);
        least.map(0, 0, 1);
        least.map(0, 1, 2);
        due("a chain 0, 1, 2 becomes 1, 2, 2", least.wayAt(0, 5), 1);
        least.cell(0, 1, 0);
        least.cell(1, 0, 0);
        due("1, 0, 2 is a chain: LAW 4", least.told(3), 4);
        due("1 is BELOW 0, but 2 is not BELOW 1", least.wayAt(0, 5), 0);
        due("told so, though a LAW is BROKEN", least.told(4), 0);
        least.map(0, 0, 2);
        due("1 is BELOW 0, 2 is BELOW 2", least.wayAt(0, 5), 1);
        Counted none = web(0, 2, 1);
        none.way(0, 0);
        none.map(0, 0, 1);
        none.map(0, 1, 0);
        due("0 and 1 in turn", none.wayAt(0, 5), 0);
        none.cell(0, 0, 1);
        none.cell(0, 1, 0);
        none.cell(1, 0, 1);
        none.cell(1, 1, 0);
        due("nothing is BELOW anything: every MAP keeps that", none.wayAt(0, 5), 1);
        due("but all LAWS are broken", none.told(3), 1);
        due("not well", none.told(5), 0);
    }

    private static void aClosedWayBringsNothing() {
        check.says("nothing (VALUE 0, SET 0), if GATE is not BELOW v");
        Counted x = web(0, 4, 2);
        x.way(0, 1);
        x.marks(0, 255, 0);
        x.start(0, 1, 15);
        x.map(0, 0, 1);
        x.gate(0, 2);
        due("GATE 2, VALUE 1: VALUE", x.wayAt(0, 7), 0);
        due("GATE 2, VALUE 1: SET", x.wayAt(0, 8), 0);
        due("VALUE known", x.place(1, 2), 0);
        due("SET known", x.place(1, 3), 0);
        x.gate(0, 1);
        due("GATE 1, VALUE 1: VALUE", x.wayAt(0, 7), 1);
        due("GATE 1, VALUE 1: SET", x.wayAt(0, 8), 255);
        Counted fan = web(1, 5, 2);
        fan.way(0, 1);
        fan.marks(0, 1, 0);
        fan.gate(0, 2);
        int[] sets = {0, 0, 1, 0, 1};
        for (int v = 0; v < 5; v++) {
            fan.start(0, v, 0);
            due("fan, GATE 2, VALUE " + v, fan.wayAt(0, 8), sets[v]);
        }
    }

    private static void anOpenWay() {
        check.says("else its MAP of v, and s without TAKES, with GIVES");
        Counted x = web(0, 4, 2);
        x.way(0, 1);
        due("nothing there: VALUE", x.wayAt(0, 7), 0);
        due("nothing there: SET", x.wayAt(0, 8), 0);
        x.marks(0, 9, 0);
        due("GATE 0 is open to nothing: it GIVES", x.wayAt(0, 8), 9);
        x.map(0, 0, 3);
        x.map(0, 1, 3);
        x.map(0, 2, 3);
        due("MAP of 0", x.wayAt(0, 7), 3);
        x.start(0, 0, 255);
        x.marks(0, 0, 255);
        due("all is taken", x.wayAt(0, 8), 0);
        x.marks(0, 255, 255);
        due("what is taken and given is there", x.wayAt(0, 8), 255);
        x.marks(0, 128, 129);
        due("mark 0 is taken, mark 7 taken and given", x.wayAt(0, 8), 254);
        x.marks(0, 0, 0);
        due("all goes through", x.wayAt(0, 8), 255);
    }

    private static void gateOfABrokenTable() {
        check.says("A WAY brings, if at its beginning VALUE v and SET s are known");
        Counted x = web(0, 2, 2);
        x.way(0, 1);
        x.marks(0, 4, 0);
        due("open", x.worked(0, 1), 4);
        x.cell(0, 0, 1);
        due("0 is not BELOW 0: GATE 0 is closed to 0", x.worked(0, 1), 256);
        x.start(0, 1, 0);
        due("0 is BELOW 1: GATE 0 is open to 1", x.worked(0, 1), 256 + 4);
    }

    private static void noMore() {
        check.says("LESS: a VALUE and SET are no more than others, if the one VALUE is BELOW the other, and the SET is a part.");
        Counted x = web(1, 5, 1);
        x.way(0, 0);
        x.gate(0, 4);
        x.start(0, 2, 6);
        due("just the same", x.write(0, 2, 6), NONE);
        due("a greater SET", x.write(0, 2, 255), NONE);
        due("one mark too few", x.write(0, 2, 253), 0);
        due("the other mark too few", x.write(0, 2, 251), 0);
        due("no marks", x.write(0, 2, 0), 0);
        due("VALUE 0", x.write(0, 0, 6), 0);
        due("an unlike VALUE", x.write(0, 3, 6), 0);
        due("an unlike VALUE, lesser", x.write(0, 1, 255), 0);
        due("the top", x.write(0, 4, 6), NONE);
        x.start(0, 0, 0);
        due("nothing is no more than nothing", x.write(0, 0, 0), NONE);
    }

    private static void together() {
        check.says("TOGETHER: VALUES JOINED, SETS united");
        Counted x = web(2, 8, 10);
        for (int w = 0; w < 20; w++) {
            x.way(1 + w % 9, 0);
        }
        x.start(0, 1, 1);
        x.start(9, 2, 2);
        x.marks(19, 8, 0);
        x.start(2, 0, 64);
        due("START, the first and the last WAY: VALUE", x.place(0, 2), 3);
        due("START, the first and the last WAY: SET", x.place(0, 3), 64 + 8 + 2 + 1);
        Counted alone = web(0, 4, 1);
        alone.start(0, 2, 5);
        due("no WAYS: START alone", alone.worked(0, 0), 512 + 5);
    }

    /** THE TABLE of 4 where a JOINED b is told for one order of START 1 and WAYS that bring 2, 3 alone. */
    private static void togetherInABrokenTable() {
        check.says("(START first, then what WAYS bring, rising: what there is so far JOINED what comes)");
        Counted x = web(0, 4, 3);
        x.start(0, 1, 0);
        x.start(1, 2, 0);
        x.start(2, 3, 0);
        x.way(1, 0);
        x.way(2, 0);
        for (int a = 0; a < 4; a++) {
            for (int b = 0; b < 4; b++) {
                x.cell(a, b, b == 0 ? a : a == 0 ? b : 1);
            }
        }
        x.cell(1, 2, 3);
        x.cell(3, 3, 2);
        due("(1 JOINED 2) JOINED 3", x.worked(0, 0), 512);
        due("by the second CHOICE", x.worked(1, 0), 512);
        x.drop(0);
        x.way(1, 0);
        due("(1 JOINED 3) JOINED 2", x.worked(0, 0), 768);
        x.cell(2, 0, 3);
        x.gate(1, 3);
        x.cell(1, 3, 2);
        due("a WAY that brings nothing is JOINED too", x.worked(0, 0), 768);
    }

    // ---- BUILT

    private static void built() {
        check.says("no WAYS, all STARTS 0, what is WRITTEN (see 2) is 0, 0 everywhere.");
        Counted x = web(2, 8, 10);
        for (int p = 0; p < 10; p++) {
            x.way(p, p);
            x.write(p, 7, 255);
            x.start(p, 6, 254);
        }
        x.cell(3, 4, 0);
        x.note(9, 1, 1);
        x.seed(31);
        due("WAYS there were", x.build(0, 8, 10), 10);
        due("no WAYS", x.told(2), 0);
        due("THE TABLE is of the ORDER", x.told(3), 0);
        for (int p = 0; p < 10; p++) {
            due("VALUE of START", x.place(p, 0), 0);
            due("SET of START", x.place(p, 1), 0);
            x.way(p, p);
            due("VALUE WRITTEN", x.place(p, 6), 0);
            due("SET WRITTEN", x.place(p, 7), 0);
        }
        due("THE BOOK stays", x.told(10), 1);
        due("THE SEED stays", x.seed(31), 31);
        due("it is a deed", x.told(12), 16);
        due("undone", x.undo(11), 10);
        due("undone: START", x.place(9, 0), 6);
        due("undone: WRITTEN", x.place(9, 7), 255);
        due("undone: THE TABLE", x.joined(3, 4), 0);
    }

    /** What was there in greater webs does not come back in later ones. */
    private static void builtAndBuiltAgain() {
        check.says("BUILT (ORDER 0 .. 2, M 1 .. 8, PLACES 0 .. 10): how many WAYS there were.");
        Counted x = web(2, 8, 10);
        for (int w = 0; w < 20; w++) {
            x.way(9, w % 10);
            x.map(w, 7, 1);
            x.gate(w, 7);
        }
        for (int p = 0; p < 10; p++) {
            x.start(p, 7, 255);
            x.write(p, 7, 255);
        }
        due("20 WAYS there were", x.build(1, 1, 0), 20);
        due("none there were", x.build(1, 8, 10), 0);
        due("START of the last", x.place(9, 0), 0);
        due("a fan, no bits", x.joined(1, 2), 7);
        due("way", x.way(9, 9), 0);
        due("MAP", x.mapped(0, 7), 7);
        due("GATE", x.wayAt(0, 4), 0);
        due("WRITTEN", x.place(9, 6), 0);
        due("one there was", x.build(0, 1, 10), 1);
        due("known", x.place(9, 2), 0);
        due("the same once more", x.build(0, 1, 10), 0);
    }
}
