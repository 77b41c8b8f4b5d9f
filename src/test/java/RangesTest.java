/**
 * Each argument of each call, alone: all that is in its range is taken, what is just outside of it or far away is
 * refused, also where it would be in the range again if bits were cut off.
 */
public final class RangesTest {
    private static final int NO_SUCH = -1;
    private static final int FAR_NO_SUCH = -1000000001;
    private static final long NO_TOTAL = -4611686018427387904L;
    private static final long ILLEGAL_ARGUMENT = Long.MIN_VALUE + 1;
    private static final long ILLEGAL_STATE = Long.MIN_VALUE + 2;

    /** One call, all of its arguments but one held. */
    private interface Call {
        long answer(DiveChairs x, int v);
    }

    public static void main(String[] args) {
        making();
        seeing();
        marks();
        places();
        leans();
        seeds();
        shelves();
        counting();
        Check.finish();
    }

    /** Two divers, three judges, two dives in hall 5 with marks, one in each other hall; shelf 7 holds a row. */
    private static DiveChairs scene() {
        DiveChairs x = new DiveChairs();
        x.diver(0, 0);
        x.diver(5, 9);
        x.judge(0, 0);
        x.judge(2, 590);
        x.judge(3, 595);
        x.chair(5, 0, 0);
        x.chair(5, 6, 2);
        for (int hall = 0; hall < 6; hall++) {
            x.dive(hall, 0, 0, 1000);
        }
        x.dive(5, 1, 1, 1000);
        x.markAll(-1);
        x.row(7, 0, 3);
        return x;
    }

    private static void outside(String what, int v, long refusal, Call call) {
        Check.is(what + " " + v, refusal, call.answer(scene(), v));
    }

    private static void range(String what, int least, int most, long refusal, Call call) {
        for (int v = least; v <= most; v++) {
            Check.holds(what + " " + v + " is in its range", call.answer(scene(), v) != refusal);
        }
        for (int away = 1; away <= 3; away++) {
            outside(what, least - away, refusal, call);
            outside(what, most + away, refusal, call);
        }
        for (int bit = 8; bit < 32; bit += 8) {
            outside(what, least + (1 << bit), refusal, call);
            outside(what, most - (1 << bit), refusal, call);
        }
        outside(what, least ^ Integer.MIN_VALUE, refusal, call);
        outside(what, most ^ Integer.MIN_VALUE, refusal, call);
        outside(what, Integer.MIN_VALUE, refusal, call);
        outside(what, Integer.MAX_VALUE, refusal, call);
    }

    private static void making() {
        range("land of a diver", 0, 5, NO_SUCH, (x, v) -> x.diver(v, 0));
        range("name of a diver", 0, 9, NO_SUCH, (x, v) -> x.diver(0, v));
        range("kind of a judge", 0, 7, NO_SUCH, (x, v) -> x.judge(v, 0));
        range("partner of a judge", 590, 595, NO_SUCH, (x, v) -> x.judge(3, v));
        range("hall of a year", 0, 5, NO_SUCH, (x, v) -> x.year(v, 0));
        range("year", 0, 40, NO_SUCH, (x, v) -> x.year(0, v));
        range("hall of a chair", 0, 5, NO_SUCH, (x, v) -> x.chair(v, 1, 1));
        range("chair", 0, 6, NO_SUCH, (x, v) -> x.chair(5, v, 1));
        range("judge on a chair, or nobody", -1, 2, NO_SUCH, (x, v) -> x.chair(0, 0, v));
        range("hall of a dive", 0, 5, NO_SUCH, (x, v) -> x.dive(v, 0, 0, 1000));
        range("diver of a dive", 0, 1, NO_SUCH, (x, v) -> x.dive(0, v, 0, 1000));
        range("flaws of a dive", 0, 63, NO_SUCH, (x, v) -> x.dive(0, 0, v, 1000));
        toldOfJudges();
        toldOfDives();
        range("dive that is asked", 0, 6, NO_SUCH, (x, v) -> x.of(v, 0));
        range("what of a dive", 0, 6, NO_SUCH, (x, v) -> x.of(0, v));
    }

    /** What is told of a judge is read back by its weights. */
    private static void toldOfJudges() {
        for (int told = -20; told < 620; told++) {
            boolean right = told >= 0 && told < 600 && told % 10 < 6;
            DiveChairs x = new DiveChairs();
            Check.is("judge " + told, right ? 0 : NO_SUCH, x.judge(0, told));
            Check.is("own judge " + told, right ? 1 : NO_SUCH, x.judge(2, told));
            Check.is("swapping judge " + told, right ? 2 : NO_SUCH, x.judge(3, told));
            Check.is("judges", right ? 3 : 0, x.count(1));
            if (right) {
                Check.is("land of " + told, 10 + told / 100, weightOf(x, 0));
                Check.is("lean of " + told, told / 10 % 10, weightOf(x, 1) - weightOf(x, 0));
                Check.is("partner of " + told, told % 10, weightOf(x, 2) - weightOf(x, 1));
            }
        }
    }

    private static int weightOf(DiveChairs x, int judge) {
        x.keep(0, 1, judge);
        return x.weight(0);
    }

    private static void toldOfDives() {
        for (int told = 880; told < 4220; told++) {
            boolean right = told >= 1000 && told < 4100 && told % 10 == 0;
            DiveChairs x = new DiveChairs();
            x.diver(0, 0);
            Check.is("dive " + told, right ? 0 : NO_SUCH, x.dive(0, 0, 0, told));
            Check.is("dives", right ? 1 : 0, x.count(2));
            Check.is("hard of " + told, right ? told / 100 : NO_SUCH, x.of(0, 4));
            Check.is("splash of " + told, right ? told / 10 % 10 : NO_SUCH, x.of(0, 3));
        }
        int[] far = {0, -1000, -4090, 10000, 1000 + (1 << 16), 1000 - (1 << 16), 1000 | Integer.MIN_VALUE,
            Integer.MIN_VALUE, Integer.MAX_VALUE, 2147483640};
        for (int told : far) {
            outside("told of a dive", told, NO_SUCH, (x, v) -> x.dive(0, 0, 0, v));
        }
    }

    private static void seeing() {
        range("part that is seen", 0, 5, NO_SUCH, (x, v) -> x.seen(v, 0, 0));
        range("chair that sees", 0, 6, NO_SUCH, (x, v) -> x.seen(0, v, 0));
        range("splash", 0, 9, NO_SUCH, (x, v) -> x.seen(0, 0, v));
        range("how many chairs see", 0, 7, NO_SUCH, (x, v) -> x.seeing(v, 0, 0));
        range("how many chairs see, the set", 0, 7, NO_SUCH, (x, v) -> x.seeing(v, 0, 1));
        range("splash for chairs", 0, 9, NO_SUCH, (x, v) -> x.seeing(1, v, 0));
        range("what of seeing", 0, 1, NO_SUCH, (x, v) -> x.seeing(1, 0, v));
    }

    private static void marks() {
        range("dive that would be marked", 0, 6, NO_SUCH, (x, v) -> x.would(v, 0));
        range("chair that would mark", 0, 6, NO_SUCH, (x, v) -> x.would(5, v));
        range("dive that is marked, or all", -1, 6, NO_SUCH, (x, v) -> x.markAll(v));
        range("dive that is told marks", 0, 6, NO_SUCH, (x, v) -> x.marks(v, 7));
        range("shelf with marks", 0, 7, NO_SUCH, (x, v) -> x.marks(0, v));
        range("dive of a mark", 0, 6, NO_SUCH, (x, v) -> x.mark(v, 0));
        range("chair of a mark", 0, 6, NO_SUCH, (x, v) -> x.mark(5, v));
        range("shelf with a rule", 0, 7, NO_SUCH, (x, v) -> x.rule(v));
        range("dive that counts", 0, 6, FAR_NO_SUCH, (x, v) -> x.counts(v));
    }

    private static void places() {
        range("hall of a total", 0, 5, NO_TOTAL, (x, v) -> x.total(v, 0));
        range("diver of a total", 0, 1, NO_TOTAL, (x, v) -> x.total(5, v));
        range("hall of a place", 0, 5, NO_SUCH, (x, v) -> x.place(v, 0));
        range("diver of a place", 0, 1, NO_SUCH, (x, v) -> x.place(5, v));
        range("hall where one won", 0, 5, NO_SUCH, (x, v) -> x.won(v));
        range("hall where one won if", 0, 5, NO_SUCH, (x, v) -> x.wonIf(v, 0, 0));
        range("what of won if", 0, 2, NO_SUCH, (x, v) -> x.wonIf(5, v, 0));
        range("chair of won if", 0, 6, NO_SUCH, (x, v) -> x.wonIf(5, 0, v));
        for (int n = -50; n < 80; n++) {
            boolean right = n >= 0 && n / 10 < 4 && n % 10 < 4;
            Check.holds("droppings " + n, right == (wonWithDroppings(n) != NO_SUCH));
        }
        int[] far = {100, 256, 265, -1, 1 << 16, Integer.MIN_VALUE, Integer.MAX_VALUE};
        for (int n : far) {
            outside("droppings", n, NO_SUCH, (x, v) -> x.wonIf(5, 1, v));
        }
        range("leans of won if", 0, 0, NO_SUCH, (x, v) -> x.wonIf(5, 2, v));
        for (int what = 0; what < 2; what++) {
            int w = what;
            range("hall of moved", 0, 5, NO_SUCH, (x, v) -> x.moved(v, 0, 1, w));
            range("diver of moved", 0, 1, NO_SUCH, (x, v) -> x.moved(5, v, 1, w));
            range("chairs of moved", 1, 3, NO_SUCH, (x, v) -> x.moved(5, 0, v, w));
        }
        range("what of moved", 0, 1, NO_SUCH, (x, v) -> x.moved(5, 0, 1, v));
    }

    private static int wonWithDroppings(int droppings) {
        return scene().wonIf(5, 1, droppings);
    }

    private static void leans() {
        for (int what = 0; what < 2; what++) {
            int w = what;
            range("judge of a lean", 0, 2, FAR_NO_SUCH, (x, v) -> x.lean(v, 0, w));
            range("land of a lean", 0, 5, FAR_NO_SUCH, (x, v) -> x.lean(0, v, w));
        }
        for (int what = 2; what < 4; what++) {
            int w = what;
            range("judge of a bound", 0, 2, FAR_NO_SUCH, (x, v) -> x.lean(v, 0, w));
            range("land of a bound", 0, 5, FAR_NO_SUCH, (x, v) -> x.lean(0, v, w));
        }
        range("what of a lean", 0, 3, FAR_NO_SUCH, (x, v) -> x.lean(0, 0, v));
        range("what of pair odds", 0, 1, NO_SUCH, (x, v) -> x.pairOdds(v));
        range("hall of an order", 0, 5, FAR_NO_SUCH, (x, v) -> x.order(v));
        range("hall of order odds", 0, 5, NO_SUCH, (x, v) -> x.orderOdds(v, 0));
        range("hall of order odds, of how many", 0, 5, NO_SUCH, (x, v) -> x.orderOdds(v, 1));
        range("what of order odds", 0, 1, NO_SUCH, (x, v) -> x.orderOdds(5, v));
        range("first year", 0, 40, FAR_NO_SUCH, (x, v) -> x.creep(v, 0));
        range("second year", 0, 40, FAR_NO_SUCH, (x, v) -> x.creep(0, v));
        range("judge who is near", 0, 2, NO_SUCH, (x, v) -> x.near(v));
        range("hall of worlds", 0, 5, NO_SUCH, (x, v) -> x.worlds(v, 1, 1));
        range("how many worlds", 1, 30, NO_SUCH, (x, v) -> x.worlds(5, v, 1));
    }

    /** Any int is a seed. */
    private static void seeds() {
        int[] seeds = {Integer.MIN_VALUE, Integer.MIN_VALUE + 1, -1, 0, 1, Integer.MAX_VALUE};
        for (int seed : seeds) {
            Check.is("one diver is always right, seed " + seed, 30, scene().worlds(0, 30, seed));
        }
    }

    private static long element(DiveChairs x, int d, int i) {
        try {
            return x.element(d, i);
        } catch (IllegalArgumentException e) {
            return ILLEGAL_ARGUMENT;
        } catch (IllegalStateException e) {
            return ILLEGAL_STATE;
        }
    }

    private static void shelves() {
        range("shelf that gets nothing", 0, 7, NO_SUCH, (x, v) -> x.keep(v, 0, 0));
        range("shelf that gets a judge", 0, 7, NO_SUCH, (x, v) -> x.keep(v, 1, 0));
        range("what a shelf gets", 0, 1, NO_SUCH, (x, v) -> x.keep(0, v, 0));
        range("judge for a shelf", 0, 2, NO_SUCH, (x, v) -> x.keep(0, 1, v));
        range("shelf that gets a row", 0, 7, NO_SUCH, (x, v) -> x.row(v, 0, 0));
        range("sort of a row", 0, 2, NO_SUCH, (x, v) -> x.row(0, v, 0));
        sizes();
        range("shelf put on", 0, 7, NO_SUCH, (x, v) -> x.put(v, 0, 0));
        range("place put on", 0, 2, -13, (x, v) -> x.put(7, v, 0));
        range("shelf of an element", 0, 7, ILLEGAL_ARGUMENT, (x, v) -> element(x, v, 0));
        range("place of an element", 0, 2, ILLEGAL_STATE, (x, v) -> element(x, 7, v));
        range("shelf copied from", 0, 7, NO_SUCH, (x, v) -> x.copy(v, 0, 7, 0, 1));
        range("shelf copied to", 0, 7, NO_SUCH, (x, v) -> x.copy(7, 0, v, 0, 1));
        range("place copied from", 0, 2, -13, (x, v) -> x.copy(7, v, 7, 0, 1));
        range("place copied to", 0, 2, -13, (x, v) -> x.copy(7, 0, 7, v, 1));
        range("how many are copied", 0, 3, -13, (x, v) -> x.copy(7, 0, 7, 0, v));
        range("place two are copied from", 0, 1, -13, (x, v) -> x.copy(7, v, 7, 0, 2));
        range("place two are copied to", 0, 1, -13, (x, v) -> x.copy(7, 0, 7, v, 2));
        range("how many are copied from the last", 0, 1, -13, (x, v) -> x.copy(7, 2, 7, 0, v));
        range("how many are copied to the last", 0, 1, -13, (x, v) -> x.copy(7, 0, 7, 2, v));
        range("shelf that weighs", 0, 7, NO_SUCH, (x, v) -> x.weight(v));
        range("shelf that is tossed", 0, 7, NO_SUCH, (x, v) -> x.toss(v));
    }

    private static void sizes() {
        for (int sort = 0; sort < 3; sort++) {
            for (int n = -5; n < 130; n++) {
                long due = n < 0 ? -14 : n > 120 ? NO_SUCH : 0;
                Check.is("size " + n, due, scene().row(0, sort, n));
            }
            Check.is("size far above", NO_SUCH, scene().row(0, sort, Integer.MAX_VALUE));
            Check.is("size far below", -14, scene().row(0, sort, Integer.MIN_VALUE));
            Check.is("size far above by bits", NO_SUCH, scene().row(0, sort, (1 << 16) + 3));
            Check.is("size far below by bits", -14, scene().row(0, sort, 3 - (1 << 16)));
        }
    }

    private static void counting() {
        range("what is counted", 0, 13, NO_SUCH, (x, v) -> x.count(v));
    }
}
