import java.io.IOException;
import java.util.ArrayList;
import java.util.Arrays;
import java.util.List;

/**
 * Each argument of each call just below, at and just above its bounds, alone and together with the others, in webs of
 * every size that the document allows: of several refusals the first in the document's order is due, and what is
 * refused changes nothing.
 */
public final class BoundsTest {
    private static final int UNKNOWN = FixedFacts.UNKNOWN, OUTSIDE = FixedFacts.OUTSIDE, NOT = FixedFacts.NOT,
            FULL = FixedFacts.FULL;
    /** Below this all answers are refusals, above it none. */
    private static final int REFUSED = -1000000000;
    private static final int NO_REFUSAL = 0;

    private enum Kind {
        VALUE, PLACE, WAY, IMAGE, SET, OF_ALL, OF_PLACE, OF_WAY, CHOICE, ORDER, VALUES, PLACES, TIMES, SEED;

        long least() {
            return this == VALUES || this == TIMES ? 1 : 0;
        }

        long greatest(Situation s) {
            return switch (this) {
                case VALUE -> s.m - 1;
                case PLACE -> s.places - 1;
                case WAY -> s.ways - 1;
                case IMAGE -> 1;
                case SET -> 255;
                case OF_ALL -> 12;
                case OF_PLACE -> 7;
                case OF_WAY -> 8;
                case CHOICE, ORDER -> 2;
                case VALUES -> 8;
                case PLACES -> 10;
                case TIMES -> 16;
                case SEED -> 2147483647;
            };
        }

        boolean fits(int number, Situation s) {
            return number >= least() && number <= greatest(s);
        }

        int refusal() {
            return this == VALUE || this == PLACE || this == WAY || this == IMAGE ? UNKNOWN : OUTSIDE;
        }

        /** Just below, the least, the greatest, just above; no number twice, none that is no int. */
        List<Integer> edges(Situation s) {
            List<Integer> edges = new ArrayList<>();
            for (long edge : new long[] {least() - 1, least(), greatest(s), greatest(s) + 1}) {
                if (edge <= Integer.MAX_VALUE && !edges.contains((int) edge)) {
                    edges.add((int) edge);
                }
            }
            return edges;
        }
    }

    private static final class Call {
        final String name;
        final boolean asks;
        final Kind[] kinds;

        Call(String name, boolean asks, Kind... kinds) {
            this.name = name;
            this.asks = asks;
            this.kinds = kinds;
        }
    }

    private static final Call[] CALLS = {
        new Call("told", true, Kind.OF_ALL),
        new Call("joined", true, Kind.VALUE, Kind.VALUE),
        new Call("below", true, Kind.VALUE, Kind.VALUE),
        new Call("place", true, Kind.PLACE, Kind.OF_PLACE),
        new Call("wayAt", true, Kind.WAY, Kind.OF_WAY),
        new Call("mapped", true, Kind.WAY, Kind.VALUE),
        new Call("steps", true, Kind.CHOICE),
        new Call("worked", true, Kind.CHOICE, Kind.PLACE),
        new Call("build", false, Kind.ORDER, Kind.VALUES, Kind.PLACES),
        new Call("cell", false, Kind.VALUE, Kind.VALUE, Kind.VALUE),
        new Call("start", false, Kind.PLACE, Kind.VALUE, Kind.SET),
        new Call("way", false, Kind.PLACE, Kind.PLACE),
        new Call("drop", false, Kind.WAY),
        new Call("map", false, Kind.WAY, Kind.VALUE, Kind.VALUE),
        new Call("marks", false, Kind.WAY, Kind.SET, Kind.SET),
        new Call("gate", false, Kind.WAY, Kind.VALUE),
        new Call("write", false, Kind.PLACE, Kind.VALUE, Kind.SET),
        new Call("copy", false),
        new Call("drift", false, Kind.TIMES),
        new Call("undo", false, Kind.TIMES),
        new Call("note", false, Kind.PLACE, Kind.VALUE, Kind.SET),
        new Call("tear", false),
        new Call("seed", false, Kind.SEED),
        new Call("keep", false, Kind.IMAGE),
        new Call("goBack", false, Kind.IMAGE)};

    private static Check check;

    public static void main(String[] args) throws IOException {
        check = new Check("BoundsTest");
        check.says("REFUSALS, of several the first in this order: UNKNOWN (a VALUE, PLACE, WAY, IMAGE that there is not), "
                + "OUTSIDE (another number out of its bounds), NOT (not now, as told), FULL.");
        for (Situation s : ofEverySize()) {
            for (Call call : CALLS) {
                lookAtAnswers(s, call);
            }
        }
        check.says("What is refused changes nothing.");
        for (Situation s : ofEveryKind()) {
            for (Call call : CALLS) {
                lookThatNothingChanges(s, call, refused(s, call));
            }
        }
        check.says("ASKED, nothing changes by it.");
        for (Situation s : ofEveryKind()) {
            for (Call call : CALLS) {
                if (call.asks) {
                    lookThatNothingChanges(s, call, argumentsOf(s, call));
                }
            }
            lookThatManyQuestionsChangeNothing(s);
        }
        check.end();
    }

    // ---- the states

    private static List<Situation> ofEverySize() {
        List<Situation> all = new ArrayList<>(ofEveryKind());
        for (int m = 1; m <= 8; m++) {
            all.add(new Situation("M " + m).web(0, m, 3, 4).with(2, 2, 1));
        }
        for (int places = 0; places <= 10; places++) {
            all.add(new Situation(places + " PLACES").web(1, 5, places, places == 0 ? 0 : 3).with(1, places, 2));
        }
        for (int ways = 0; ways <= 20; ways++) {
            all.add(new Situation(ways + " WAYS").web(0, 3, 5, ways).with(0, 1, 3));
        }
        for (int deeds = 0; deeds <= 18; deeds++) {
            all.add(new Situation(deeds + " deeds").web(1, 4, 2, 2).with(deeds, 0, 1));
        }
        for (int entries = 0; entries <= 20; entries++) {
            all.add(new Situation(entries + " entries").web(0, 2, 4, 1).with(3, entries, 2));
        }
        return all;
    }

    private static List<Situation> ofEveryKind() {
        Situation law = new Situation("a LAW is BROKEN").web(0, 4, 4, 6).with(5, 5, 1);
        law.breaksLaw = true;
        Situation order = new Situation("a WAY does not KEEP ORDER").web(1, 5, 3, 3).with(4, 4, 2);
        order.breaksOrder = true;
        return List.of(
                Situation.newObject(),
                new Situation("nothing").web(0, 1, 0, 0).with(0, 0, 1),
                new Situation("no PLACES, deeds").web(0, 8, 0, 0).with(16, 0, 2),
                new Situation("one of each").web(0, 1, 1, 1).with(1, 1, 1),
                new Situation("some").web(1, 5, 6, 7).with(6, 7, 2),
                new Situation("full").web(2, 8, 10, 20).with(20, 20, 3),
                law, order);
    }

    // ---- the arguments

    /** All edges with all others, and each argument as far off as can be with the others as they should be. */
    private static List<int[]> argumentsOf(Situation s, Call call) {
        List<int[]> all = new ArrayList<>();
        all.add(new int[call.kinds.length]);
        for (int i = 0; i < call.kinds.length; i++) {
            List<int[]> longer = new ArrayList<>();
            for (int[] some : all) {
                for (int edge : call.kinds[i].edges(s)) {
                    int[] more = some.clone();
                    more[i] = edge;
                    longer.add(more);
                }
            }
            all = longer;
        }
        for (int i = 0; i < call.kinds.length; i++) {
            for (int far : new int[] {Integer.MIN_VALUE, -1000000001, Integer.MAX_VALUE}) {
                int[] one = new int[call.kinds.length];
                for (int j = 0; j < one.length; j++) {
                    one[j] = j == i ? far : (int) call.kinds[j].least();
                }
                all.add(one);
            }
        }
        return all;
    }

    private static List<int[]> refused(Situation s, Call call) {
        List<int[]> refused = new ArrayList<>();
        for (int[] arguments : argumentsOf(s, call)) {
            if (refusal(s, call, arguments) != NO_REFUSAL) {
                refused.add(arguments);
            }
        }
        return refused;
    }

    // ---- what is due

    private static int refusal(Situation s, Call call, int[] a) {
        boolean isOutside = false;
        for (int i = 0; i < a.length; i++) {
            boolean fits = call.kinds[i].fits(a[i], s);
            if (!fits && call.kinds[i].refusal() == UNKNOWN) {
                return UNKNOWN;
            }
            isOutside |= !fits;
        }
        if (isOutside) {
            return OUTSIDE;
        }
        boolean isNot = switch (call.name) {
            case "write" -> !s.isKept(a[0]);
            case "copy" -> !s.isWell();
            case "undo" -> a[0] > s.undoable();
            case "goBack" -> (s.images >> a[0] & 1) == 0;
            default -> false;
        };
        if (isNot) {
            return NOT;
        }
        boolean isFull = call.name.equals("way") && s.ways == 20 || call.name.equals("note") && s.entries == 20;
        return isFull ? FULL : NO_REFUSAL;
    }

    // ---- the looks

    /** What is refused is asked of one object, each call that is not refused of its own. */
    private static void lookAtAnswers(Situation s, Call call) {
        Counted refusing = s.make();
        for (int[] arguments : argumentsOf(s, call)) {
            int refusal = refusal(s, call, arguments);
            String text = s.name + ": " + call.name + Arrays.toString(arguments);
            if (refusal != NO_REFUSAL) {
                check.due(text, refusing.call(call.name, arguments), refusal);
            } else {
                check.holds(text + " is not refused", s.make().call(call.name, arguments) > REFUSED);
            }
        }
    }

    private static void lookThatNothingChanges(Situation s, Call call, List<int[]> all) {
        for (int look = 0; look < Situation.LOOKS && !all.isEmpty(); look++) {
            Counted x = s.make();
            for (int[] arguments : all) {
                x.call(call.name, arguments);
            }
            check.holds(s.name + ": " + call.name + " changes nothing, look " + look,
                    s.look(look, x).equals(s.look(look, s.make())));
        }
    }

    /** Whatever was asked ahead of it, a question is answered as if it came first. */
    private static void lookThatManyQuestionsChangeNothing(Situation s) {
        Counted x = s.make();
        for (int round = 0; round < 2; round++) {
            for (int what = 12; what >= 0; what--) {
                check.due(s.name + ": told(" + what + ")", x.told(what), s.make().told(what));
                check.due(s.name + ": place(0, 2)", x.place(0, 2), s.make().place(0, 2));
                check.due(s.name + ": place(0, 4)", x.place(0, 4), s.make().place(0, 4));
                check.due(s.name + ": wayAt(0, 6)", x.wayAt(0, 6), s.make().wayAt(0, 6));
                check.due(s.name + ": worked(2, 0)", x.worked(2, 0), s.make().worked(2, 0));
                check.due(s.name + ": steps(1)", x.steps(1), s.make().steps(1));
            }
        }
    }
}
