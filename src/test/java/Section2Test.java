import java.io.IOException;

/** Section 2 of the document, a test for each sentence that names a boundary case. */
public final class Section2Test {
    private static final int NONE = FixedFacts.NONE, UNKNOWN = FixedFacts.UNKNOWN, OUTSIDE = FixedFacts.OUTSIDE,
            NOT = FixedFacts.NOT;

    private static Check check;

    public static void main(String[] args) throws IOException {
        check = new Check("Section2Test");
        allIsWell();
        onlyTheLastWayIsNotWell();
        knownIfNotWell();
        theLeastThatHolds();
        theGreatestThatCanBeKnown();
        workedAlsoIfNotWell();
        stepsAtTheLimit();
        stepsWithoutEnd();
        allWaitInOrder();
        theNextByEachChoice();
        itGetsNoMoreThanComes();
        waitingByWaysRising();
        whoWaitsAlreadyStays();
        onlyWhatIsOtherwiseWakes();
        aWayToItselfWakesItself();
        noneWaits();
        kept();
        writtenAtFirst();
        writtenStaysWhileNotKept();
        rebuiltRising();
        rebuiltOfAllKept();
        taken();
        refusedAtTheLeast();
        refusedThoughNotWell();
        check.end();
    }

    private static void due(String call, int got, int want) {
        check.due(call, got, want);
    }

    private static Counted web(int order, int m, int places) {
        Counted x = new Counted();
        due("build(" + order + ", " + m + ", " + places + ")", x.build(order, m, places), 0);
        return x;
    }

    // ---- KNOWN

    private static void allIsWell() {
        check.says("ALL IS WELL, if no LAW is BROKEN, and all WAYS KEEP ORDER.");
        Counted x = web(0, 2, 2);
        due("no WAYS", x.told(5), 1);
        x.way(0, 1);
        due("a WAY that keeps it", x.told(5), 1);
        x.map(0, 0, 1);
        x.map(0, 1, 0);
        due("a WAY that does not: told(3)", x.told(3), 0);
        due("a WAY that does not: told(4)", x.told(4), 0);
        due("a WAY that does not: told(5)", x.told(5), 0);
        x.cell(1, 1, 0);
        due("and a LAW: told(3)", x.told(3), 1);
        due("and a LAW: told(4)", x.told(4), 0);
        due("and a LAW: told(5)", x.told(5), 0);
        x.map(0, 0, 0);
        x.map(0, 1, 1);
        due("a LAW alone: told(4)", x.told(4), NONE);
        due("a LAW alone: told(5)", x.told(5), 0);
        x.cell(1, 1, 1);
        due("well again", x.told(5), 1);
        x.build(0, 2, 0);
        x.cell(1, 1, 0);
        due("no PLACES, but a LAW", x.told(5), 0);
    }

    private static void onlyTheLastWayIsNotWell() {
        check.says("4 the first WAY that does not KEEP ORDER (NONE)");
        Counted x = web(0, 8, 10);
        for (int w = 0; w < 20; w++) {
            x.way(w % 10, w / 2);
        }
        due("all 20 keep it", x.told(4), NONE);
        x.map(19, 7, 0);
        due("the last does not", x.told(4), 19);
        due("not well", x.told(5), 0);
        due("not well: known", x.place(0, 2), NONE);
        x.map(10, 0, 7);
        due("the first of two", x.told(4), 10);
        x.drop(0);
        due("one number less", x.told(4), 9);
        x.drop(9);
        due("the last again", x.told(4), 17);
        x.drop(17);
        due("none", x.told(4), NONE);
        due("well", x.told(5), 1);
    }

    private static void knownIfNotWell() {
        check.says("2, 3 KNOWN (NONE: not ALL IS WELL)");
        Counted x = web(0, 2, 2);
        x.way(0, 1);
        x.start(0, 1, 255);
        for (int round = 0; round < 2; round++) {
            if (round == 0) {
                x.cell(1, 1, 0);
            } else {
                x.map(0, 0, 1);
                x.map(0, 1, 0);
            }
            for (int p = 0; p < 2; p++) {
                due("VALUE", x.place(p, 2), NONE);
                due("SET", x.place(p, 3), NONE);
                due("no such PLACE", x.place(2, 2), UNKNOWN);
            }
            check.says("7, 8 VALUE, SET that it brings by what is KNOWN (NONE: not ALL IS WELL)");
            due("VALUE that it brings", x.wayAt(0, 7), NONE);
            due("SET that it brings", x.wayAt(0, 8), NONE);
            due("no such WAY", x.wayAt(1, 7), UNKNOWN);
            x.cell(1, 1, 1);
        }
    }

    private static void theLeastThatHolds() {
        check.says("Then KNOWN at each PLACE is the least for which START of it and all that WAYS to it bring by what is KNOWN "
                + "where they begin are no more than it.");
        Counted x = web(0, 4, 3);
        x.way(0, 0);
        x.way(1, 2);
        x.way(2, 1);
        for (int p = 0; p < 3; p++) {
            due("what would hold itself up is not known", x.place(p, 2), 0);
            due("what would hold itself up is not known", x.place(p, 3), 0);
        }
        x.gate(1, 1);
        x.marks(1, 1, 0);
        due("nor what would open its own GATE", x.place(2, 3), 0);
        x.start(1, 1, 0);
        due("just enough at the beginning", x.place(2, 3), 1);
        due("and back", x.place(1, 3), 1);
        due("another PLACE is as it was", x.place(0, 2), 0);
        Counted none = web(0, 4, 0);
        due("no PLACES: well", none.told(5), 1);
        due("no PLACES: exact", none.told(8), 1);
        due("no PLACES: nothing is known anywhere", none.place(0, 2), UNKNOWN);
    }

    /** Each VALUE is found one after the other, by going round; so is each mark. */
    private static void theGreatestThatCanBeKnown() {
        check.says("Then KNOWN at each PLACE is the least for which");
        Counted x = web(0, 8, 10);
        for (int p = 0; p < 10; p++) {
            x.way((p + 1) % 10, p);
        }
        for (int v = 0; v < 7; v++) {
            x.map(4, v, v + 1);
        }
        for (int k = 0; k < 8; k++) {
            int w = x.way(9, 0);
            x.gate(w, k);
            x.marks(w, 1 << k, 0);
        }
        for (int p = 0; p < 10; p++) {
            due("VALUE of PLACE " + p, x.place(p, 2), 7);
            due("SET of PLACE " + p, x.place(p, 3), 255);
            for (int choice = 0; choice < 3; choice++) {
                due("CHOICE " + choice + " at PLACE " + p, x.worked(choice, p), 2047);
            }
        }
    }

    // ---- WORKED

    private static void workedAlsoIfNotWell() {
        check.says("WORKED (also if not ALL IS WELL; 2000 steps at most)");
        Counted x = web(0, 2, 2);
        x.way(0, 1);
        x.map(0, 0, 1);
        x.map(0, 1, 0);
        due("not well", x.told(5), 0);
        due("0 becomes 1", x.worked(0, 1), 256);
        due("2 steps", x.steps(0), 2);
        due("not known", x.place(1, 2), NONE);
        x.cell(0, 0, 1);
        due("a LAW too: PLACE 0 has START alone", x.worked(1, 0), 0);
        due("a LAW too: 0 is closed to 0, 0 JOINED 0 is 1", x.worked(1, 1), 256);
    }

    private static void stepsAtTheLimit() {
        check.says("WORKED (also if not ALL IS WELL; 2000 steps at most)");
        for (int alone = 0; alone < 3; alone++) {
            int want = alone == 0 ? 2000 : NONE;
            int end = alone == 0 ? 7 * 256 : NONE;
            Counted[] x = {Clock.build(false, 0, 101, 6, 1, alone), Clock.build(false, 0, 78, 35, 5, alone),
                Clock.build(true, 1, 57, 55, 1, alone)};
            int[] clock = {5, 5, 0};
            for (int choice = 0; choice < 3; choice++) {
                String text = "2000 steps and " + alone + " by CHOICE " + choice;
                due(text, x[choice].steps(choice), want);
                due(text + ": the clock", x[choice].worked(choice, clock[choice]), end);
                int last = x[choice].told(1) - 1;
                due(text + ": the last PLACE", x[choice].worked(choice, last) == NONE ? 1 : 0, alone == 0 ? 0 : 1);
            }
        }
    }

    private static void stepsWithoutEnd() {
        check.says("NONE: it did not end.");
        Counted x = web(0, 2, 3);
        x.way(1, 1);
        x.map(0, 0, 1);
        x.map(0, 1, 0);
        for (int choice = 0; choice < 3; choice++) {
            due("0 and 1 in turn", x.steps(choice), NONE);
            for (int p = 0; p < 3; p++) {
                due("0 and 1 in turn: also where all is calm", x.worked(choice, p), NONE);
            }
            due("no such PLACE", x.worked(choice, 3), UNKNOWN);
        }
        due("no such CHOICE", x.steps(3), OUTSIDE);
        due("no such CHOICE", x.worked(3, 0), OUTSIDE);
        due("no such CHOICE", x.worked(-1, 0), OUTSIDE);
        x.drop(0);
        due("it ends now", x.steps(0), 3);
    }

    private static void allWaitInOrder() {
        check.says("at first at all PLACES VALUE 0, SET 0, all of them WAIT, in order.");
        for (int places = 0; places <= 10; places++) {
            Counted x = web(0, 4, places);
            for (int choice = 0; choice < 3; choice++) {
                due("no WAYS, " + places + " PLACES", x.steps(choice), places);
            }
            for (int p = 0; p < places; p++) {
                x.start(p, 3, 255);
            }
            for (int choice = 0; choice < 3; choice++) {
                due("no WAYS, " + places + " PLACES with START", x.steps(choice), places);
            }
        }
        // 0 is taken first by CHOICES 0 and 1, last by CHOICE 2
        Counted x = web(0, 2, 2);
        x.way(0, 1);
        x.start(0, 1, 0);
        due("0, 1", x.steps(0), 2);
        due("0, 1", x.steps(1), 2);
        due("1, 0, 1", x.steps(2), 3);
    }

    private static void theNextByEachChoice() {
        check.says("A step: one that WAITS is taken: by CHOICE 0 the least, 1 the one that waits the longest, 2 the one that "
                + "came last;");
        Counted x = web(0, 3, 4);
        x.way(3, 0);
        x.way(0, 1);
        x.way(1, 2);
        x.start(3, 1, 0);
        x.start(1, 2, 0);
        due("0 1* 2* 3* 0* 1", x.steps(0), 6);
        due("0 1* 2* 3* 0* 1", x.steps(1), 6);
        due("3* 2 1* 2* 0* 1: 0 is waiting already", x.steps(2), 6);
        Counted y = web(0, 3, 3);
        y.way(1, 0);
        y.way(2, 0);
        y.start(1, 1, 0);
        y.start(2, 2, 0);
        due("0 1* 0* 2* 0*", y.steps(0), 5);
        due("0 1* 2* 0*", y.steps(1), 4);
        due("2* 1* 0*: 0 is waiting already", y.steps(2), 3);
    }

    /** What it had goes, also if it was more: so can be only if not ALL IS WELL. */
    private static void itGetsNoMoreThanComes() {
        check.says("it gets START of it and what all WAYS to it bring, TOGETHER;");
        Counted x = web(0, 3, 3);
        x.way(1, 0);
        x.map(0, 0, 2);
        x.map(0, 1, 0);
        x.start(0, 0, 4);
        x.start(1, 1, 8);
        due("not well", x.told(5), 0);
        due("0*: 2 and mark 2; 1*; 0*: 0 and marks 2, 3; 2", x.steps(0), 4);
        due("the VALUE that it had is gone", x.worked(0, 0), 12);
        due("0* 1* 2 0*", x.steps(1), 4);
        due("the VALUE that it had is gone", x.worked(1, 0), 12);
        due("2 1* 0*", x.steps(2), 3);
        due("it never had more", x.worked(2, 0), 12);
        // a GATE that is closed again: its marks go, too
        Counted y = web(0, 3, 3);
        y.way(1, 0);
        y.way(2, 1);
        y.gate(0, 1);
        y.marks(0, 64, 0);
        y.map(1, 0, 1);
        y.map(1, 2, 0);
        y.start(2, 2, 1);
        due("0 1* 0* 2* 1* 0*", y.steps(0), 6);
        due("closed again", y.worked(0, 0), 0);
        due("0 1* 2* 0* 1* 0*", y.steps(1), 6);
        due("closed again", y.worked(1, 0), 0);
        due("where it begins", y.worked(1, 1), 1);
        due("by WAY 1 all is as it comes", y.worked(1, 2), 513);
    }

    private static void waitingByWaysRising() {
        check.says("all PLACES to which a WAY leads from it WAIT (by WAYS, rising; one that does already stays where it is)");
        // 2 wakes 0, 1 by WAYS 0, 1; 1 wakes 0
        Counted x = web(0, 4, 3);
        x.way(2, 0);
        x.way(2, 1);
        x.way(1, 0);
        x.start(2, 1, 0);
        x.map(2, 1, 2);
        x.map(2, 0, 0);
        due("0 1 2* 0* 1* 0*", x.steps(1), 6);
        // the same, but 2 wakes 1 ahead of 0
        Counted y = web(0, 4, 3);
        y.way(2, 1);
        y.way(2, 0);
        y.way(1, 0);
        y.start(2, 1, 0);
        y.map(2, 1, 2);
        due("0 1 2* 1* 0*", y.steps(1), 5);
        // two WAYS to one PLACE wake it once
        Counted z = web(0, 4, 2);
        z.way(1, 0);
        z.way(1, 0);
        z.start(1, 1, 0);
        due("0 1* 0*", z.steps(1), 3);
    }

    private static void whoWaitsAlreadyStays() {
        check.says("one that does already stays where it is");
        // CHOICE 2: 2 wakes 0 (it waits at the bottom already) and 1 (which waits above it): 1 is taken next, then 0
        Counted x = web(0, 4, 3);
        x.way(2, 1);
        x.way(2, 0);
        x.way(1, 0);
        x.start(2, 1, 0);
        x.map(2, 1, 2);
        due("2* 1* 0*", x.steps(2), 3);
        // CHOICE 1: 0 wakes 1, which waits in front of 2 already; 1 wakes 2, which waits too
        Counted y = web(0, 4, 3);
        y.way(0, 1);
        y.way(1, 2);
        y.start(0, 1, 0);
        due("0* 1* 2*", y.steps(1), 3);
    }

    private static void onlyWhatIsOtherwiseWakes() {
        check.says("if that is not what it had, all PLACES to which a WAY leads from it WAIT");
        Counted x = web(0, 2, 2);
        x.way(1, 0);
        due("nothing is otherwise: 0 1", x.steps(0), 2);
        x.start(1, 1, 0);
        due("the VALUE alone: 0 1* 0*", x.steps(0), 3);
        x.start(1, 0, 128);
        due("the SET alone: 0 1* 0*", x.steps(0), 3);
        x.gate(0, 1);
        due("woken, though the WAY is closed: 0 1* 0", x.steps(0), 3);
    }

    private static void aWayToItselfWakesItself() {
        check.says("all PLACES to which a WAY leads from it WAIT");
        Counted x = web(0, 8, 1);
        x.way(0, 0);
        due("nothing is otherwise", x.steps(0), 1);
        for (int v = 0; v < 7; v++) {
            x.map(0, v, v + 1);
        }
        for (int choice = 0; choice < 3; choice++) {
            due("7 times otherwise, then not", x.steps(choice), 8);
            due("up to the greatest", x.worked(choice, 0), 7 * 256);
        }
    }

    private static void noneWaits() {
        check.says("It ends when none WAITS. STEPS: how many there were.");
        Counted x = web(0, 4, 0);
        for (int choice = 0; choice < 3; choice++) {
            due("no PLACES: no steps", x.steps(choice), 0);
            due("no PLACES", x.worked(choice, 0), UNKNOWN);
        }
        due("CHOICE -1", x.steps(-1), OUTSIDE);
        due("CHOICE 3", x.steps(3), OUTSIDE);
        due("of two the first", x.worked(3, 0), UNKNOWN);
    }

    // ---- KEPT, WRITTEN, REBUILT

    private static void kept() {
        check.says("KEPT are PLACES to which a WAY leads from a PLACE of the same number or a greater one.");
        for (int from = 0; from < 10; from++) {
            for (int to = 0; to < 10; to++) {
                Counted x = web(0, 4, 10);
                x.way(from, to);
                boolean isKept = from >= to;
                due(from + " to " + to + ": told(6)", x.told(6), isKept ? 1 << to : 0);
                due(from + " to " + to + ": place", x.place(to, 6), isKept ? 0 : NONE);
                due(from + " to " + to + ": place", x.place(to, 7), isKept ? 0 : NONE);
                due(from + " to " + to + ": write", x.write(to, 0, 0), isKept ? NONE : NOT);
                due(from + " to " + to + ": the beginning", x.write(from, 0, 0), from == to ? NONE : NOT);
                due(from + " to " + to + ": copy", x.copy(), isKept ? 1 : 0);
            }
        }
        Counted x = web(0, 4, 10);
        for (int p = 0; p < 10; p++) {
            x.way(9, p);
        }
        due("all", x.told(6), 1023);
        x.way(9, 9);
        x.drop(9);
        due("by another WAY still", x.told(6), 1023);
        x.drop(9);
        due("by none", x.told(6), 511);
    }

    private static void writtenAtFirst() {
        check.says("WRITTEN: a VALUE and SET for each KEPT one (0, 0 at first; told with write()");
        Counted x = web(2, 8, 3);
        x.start(0, 7, 255);
        x.start(1, 7, 255);
        x.way(0, 0);
        x.way(2, 1);
        due("0 at first", x.place(0, 6), 0);
        due("0 at first", x.place(0, 7), 0);
        due("0 at first", x.place(1, 6), 0);
        due("not KEPT", x.place(2, 6), NONE);
        due("not KEPT", x.place(2, 7), NONE);
        due("the greatest", x.write(1, 7, 255), 0);
        due("told", x.place(1, 6), 7);
        due("told", x.place(1, 7), 255);
        due("the other is as it was", x.place(0, 6), 0);
        due("the least", x.write(1, 0, 0), 0);
        due("told", x.place(1, 7), 0);
        due("SET 256", x.write(1, 0, 256), OUTSIDE);
        due("SET -1", x.write(1, 0, -1), OUTSIDE);
        due("VALUE 8", x.write(1, 8, 0), UNKNOWN);
        due("PLACE 3", x.write(3, 0, 0), UNKNOWN);
        due("not KEPT", x.write(2, 0, 0), NOT);
        due("not KEPT, SET 256", x.write(2, 0, 256), OUTSIDE);
        due("not KEPT, VALUE 8, SET 256", x.write(2, 8, 256), UNKNOWN);
    }

    private static void writtenStaysWhileNotKept() {
        check.says("what was WRITTEN for a PLACE stays, also while it is not KEPT");
        Counted x = web(0, 4, 3);
        x.way(2, 2);
        x.write(2, 3, 99);
        x.drop(0);
        due("not KEPT", x.place(2, 6), NONE);
        due("not KEPT: REBUILT is START", x.place(2, 4), 0);
        due("not KEPT: it cannot be told", x.write(2, 0, 0), NOT);
        due("not KEPT: no copy for it", x.copy(), 0);
        x.way(0, 2);
        due("a WAY that does not keep it", x.place(2, 7), NONE);
        x.way(2, 2);
        due("KEPT again", x.place(2, 6), 3);
        due("KEPT again", x.place(2, 7), 99);
        due("KEPT again: REBUILT", x.place(2, 5), 99);
        x.drop(1);
        x.build(0, 4, 3);
        x.way(2, 2);
        due("BUILT: 0", x.place(2, 7), 0);
        x.undo(2);
        x.way(2, 2);
        due("not BUILT: as it was", x.place(2, 7), 99);
        x.drop(1);
        x.keep(0);
        x.build(0, 1, 0);
        x.goBack(0);
        x.way(2, 2);
        due("in an IMAGE, too", x.place(2, 7), 99);
    }

    private static void rebuiltRising() {
        check.says("REBUILT: PLACES, rising: a KEPT one has what is WRITTEN, others START and what WAYS to it bring by what is "
                + "REBUILT, TOGETHER.");
        Counted x = web(0, 4, 4);
        x.way(0, 1);
        x.way(1, 2);
        x.way(2, 3);
        x.way(3, 1);
        x.start(0, 2, 1);
        x.start(1, 3, 8);
        x.marks(1, 4, 0);
        due("no WAY to it: START", x.place(0, 4), 2);
        due("KEPT: what is WRITTEN, not START", x.place(1, 4), 0);
        due("KEPT: what is WRITTEN, not START", x.place(1, 5), 0);
        due("by what is REBUILT", x.place(2, 4), 0);
        due("by what is REBUILT", x.place(2, 5), 4);
        x.write(1, 1, 2);
        due("the last", x.place(3, 4), 1);
        due("the last", x.place(3, 5), 6);
        x.start(3, 2, 0);
        due("its START with it", x.place(3, 4), 2);
        x.cell(0, 3, 0);
        due("also if not well", x.place(3, 5), 6);
        due("not well", x.told(5), 0);
    }

    private static void rebuiltOfAllKept() {
        check.says("a KEPT one has what is WRITTEN");
        Counted x = web(2, 8, 10);
        for (int p = 0; p < 10; p++) {
            x.way(p, p);
            x.way(9, p);
            x.start(p, 7, 255);
            x.write(p, p % 8, p);
        }
        for (int p = 0; p < 10; p++) {
            due("VALUE", x.place(p, 4), p % 8);
            due("SET", x.place(p, 5), p);
        }
        due("copy of all", x.copy(), 10);
        for (int p = 0; p < 10; p++) {
            due("VALUE", x.place(p, 4), 7);
            due("SET", x.place(p, 5), 255);
        }
        due("EXACT", x.told(8), 1);
    }

    private static void taken() {
        check.says("TAKEN: for each KEPT one START and what WAYS to it bring by what is REBUILT, TOGETHER, are no more than what "
                + "is WRITTEN");
        Counted none = web(0, 4, 0);
        due("no PLACES", none.told(7), NONE);
        Counted x = web(0, 4, 3);
        x.start(2, 3, 255);
        due("none is KEPT", x.told(7), NONE);
        x.way(0, 2);
        due("none is KEPT", x.told(7), NONE);
        x.way(2, 2);
        due("START is more than what is WRITTEN", x.told(7), 2);
        due("just START", x.write(2, 3, 255), NONE);
        x.start(2, 1, 4);
        due("just START, the WAY to itself brings what is WRITTEN", x.write(2, 1, 4), NONE);
        x.marks(1, 1, 0);
        due("the WAY to itself brings more", x.told(7), 2);
        due("more is WRITTEN", x.write(2, 1, 5), NONE);
        x.start(0, 2, 0);
        due("another WAY brings more", x.told(7), 2);
        due("more is WRITTEN", x.write(2, 2, 5), NONE);
        due("less is WRITTEN", x.write(2, 2, 4), 2);
    }

    private static void refusedAtTheLeast() {
        check.says("REFUSED AT: the least for which not; NONE: it is TAKEN.");
        Counted x = web(0, 2, 10);
        for (int p = 0; p < 10; p++) {
            x.way(p, p);
            x.start(p, 1, 0);
        }
        due("all are refused", x.told(7), 0);
        for (int p = 0; p < 10; p++) {
            due("write", x.write(p, 1, 0), p == 9 ? NONE : p + 1);
        }
        due("TAKEN", x.told(7), NONE);
        due("the last alone", x.write(9, 0, 0), 9);
        due("the first and the last", x.write(0, 0, 0), 0);
        due("the last alone", x.write(0, 1, 255), 9);
    }

    private static void refusedThoughNotWell() {
        check.says("REFUSED AT: the least for which not; NONE: it is TAKEN.");
        Counted x = web(0, 2, 2);
        x.way(1, 0);
        x.start(0, 1, 0);
        x.cell(1, 1, 0);
        due("1 JOINED 0 is 1, which is not BELOW 1 now", x.write(0, 1, 0), 0);
        due("1 is not BELOW 0 either", x.write(0, 0, 0), 0);
        x.start(0, 0, 0);
        due("0 is BELOW 0", x.told(7), NONE);
        due("it is not EXACT", x.told(8), 0);
        due("it cannot be copied", x.copy(), NOT);
    }
}
