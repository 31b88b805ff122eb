/**
 * Webs of just so many steps: a clock (one PLACE that goes round) and five counters behind it, each of which moves on
 * when the one ahead of it changes its half; the last one stops the clock. Only a TABLE that breaks the LAWS allows so
 * many.
 */
final class Clock {
    private Clock() {
    }

    /** Each PLACE that is left alone is one step more. */
    static Counted build(boolean clockFirst, int idle, int halves, int counterHalves, int stop, int alone) {
        Counted x = new Counted();
        int counters = 5;
        int clock = clockFirst ? 0 : counters + idle;
        int first = clockFirst ? 1 : 0;
        x.build(2, 8, counters + idle + 1 + alone);
        for (int a = 1; a < 8; a++) {
            int onward = a == 7 ? 7 : a == 6 ? 1 : a + 1;
            for (int b = 0; b < 8; b++) {
                boolean moves = b == 0 && a % 2 == 1 || b == 1 && a % 2 == 0;
                x.cell(a, b, b == 3 ? 7 : moves ? onward : a);
            }
        }
        wayWithMap(x, clock, clock, 1, 2, 3, 4, 5, 6, 1, 1);
        for (int i = 0; i < counters; i++) {
            wayWithMap(x, first + i, first + i, 1, 1, 2, 3, 4, 5, 6, 1);
        }
        wayWithMap(x, clock, first, bits(halves, 0, 1));
        for (int i = 1; i < counters; i++) {
            wayWithMap(x, first + i - 1, first + i, bits(counterHalves, 0, 1));
        }
        wayWithMap(x, first + counters - 1, clock, bits(1 << stop - 1, 2, 3));
        for (int i = 0; i < idle; i++) {
            x.way(clock, first + counters + i);
        }
        return x;
    }

    /** Of 0 the first number; of v the second one if bit v less 1 is set. */
    private static int[] bits(int set, int no, int yes) {
        int[] map = new int[8];
        for (int v = 0; v < 8; v++) {
            map[v] = v > 0 && (set >> v - 1 & 1) == 1 ? yes : no;
        }
        return map;
    }

    private static void wayWithMap(Counted x, int from, int to, int... map) {
        int w = x.way(from, to);
        for (int v = 0; v < 8; v++) {
            x.map(w, v, map[v]);
        }
    }
}
