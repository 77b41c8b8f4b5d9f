/** Promises 33 to 39: what shelves hold, rows, weights, failures. */
public final class ShelvesTest {
    public static void main(String[] args) {
        keep();
        nothingBehindARow();
        row();
        put();
        element();
        copy();
        copyRefusals();
        weights();
        failures();
        Check.finish();
    }

    private static void keep() {
        DiveChairs x = new DiveChairs();
        Check.is("no judge yet", -1, x.keep(0, 1, 0));
        x.judge(0, 100);
        Check.is("a judge", 0, x.keep(0, 1, 0));
        Check.is("held", 11, x.weight(0));
        Check.is("judge below", -1, x.keep(0, 1, -1));
        Check.is("judge not made", -1, x.keep(0, 1, 1));
        Check.is("what below", -1, x.keep(0, -1, 0));
        Check.is("what above", -1, x.keep(0, 2, 0));
        Check.is("shelf below", -1, x.keep(-1, 1, 0));
        Check.is("shelf above", -1, x.keep(8, 0, 0));
        Check.is("still held", 11, x.weight(0));
        Check.is("nothing, whatever the other is", 0, x.keep(0, 0, -99));
        Check.is("nothing held", -11, x.weight(0));
        x.row(7, 0, 3);
        Check.is("in place of a row", 0, x.keep(7, 1, 0));
        Check.is("no row now", -12, x.put(7, 0, 0));
        Check.is("nothing", 0, x.keep(7, 0, 0));
        Check.is("nothing now", -11, x.put(7, 0, 0));
    }

    /** Of what a shelf held nothing is left, of whatever sort it was. */
    private static void nothingBehindARow() {
        DiveChairs x = new DiveChairs();
        x.diver(0, 0);
        x.judge(0, 0);
        x.dive(0, 0, 0, 1000);
        x.row(1, 0, 5);
        for (int sort = 0; sort < 3; sort++) {
            x.row(0, sort, 5);
            x.keep(0, 0, 0);
            Check.is("no rule held", -11, x.rule(0));
            Check.is("no marks held", -11, x.marks(0, 0));
            Check.is("nothing to put into", -11, x.put(0, 0, 0));
            Check.is("nothing to copy", -11, x.copy(0, 0, 1, 0, 0));
            Check.is("nothing to copy to", -11, x.copy(1, 0, 0, 0, 0));
            Check.is("no weight", -11, x.weight(0));
            Check.is("no failure", -11, x.toss(0));
            x.keep(0, 1, 0);
            Check.is("a judge is no rule", -12, x.rule(0));
            Check.is("a judge is no marks", -12, x.marks(0, 0));
            Check.is("a judge is no row", -12, x.copy(0, 0, 1, 0, 0));
            Check.is("weight", 10, x.weight(0));
        }
    }

    private static void row() {
        DiveChairs x = new DiveChairs();
        x.judge(0, 0);
        Check.is("shelf below", -1, x.row(-1, 0, 0));
        Check.is("shelf above", -1, x.row(8, 0, 0));
        Check.is("sort below", -1, x.row(0, -1, 0));
        Check.is("sort above", -1, x.row(0, 3, 0));
        Check.is("size above", -1, x.row(0, 0, 121));
        Check.is("size below", -14, x.row(0, 0, -1));
        Check.is("size far below", -14, x.row(0, 2, Integer.MIN_VALUE));
        Check.is("not as told goes ahead", -1, x.row(0, 3, -1));
        Check.is("nothing held", -11, x.put(0, 0, 0));
        Check.is("most", 0, x.row(0, 2, 120));
        Check.is("last", 0, x.put(0, 119, 5));
        Check.is("empty", 0, x.row(1, 1, 0));
        Check.is("has no place", -13, x.put(1, 0, 0));
        Check.is("anew", 0, x.row(0, 2, 120));
        Check.is("with zeros", 0, x.element(0, 119));
        x.put(0, 0, 9);
        x.row(0, 2, 1);
        Check.is("from the first on", 0, x.element(0, 0));
        x.keep(2, 1, 0);
        Check.is("refused", -14, x.row(2, 0, -5));
        Check.is("judge stays", 10, x.weight(2));
        Check.is("in place of a judge", 0, x.row(2, 0, 1));
        Check.is("a row", -12, x.weight(2));
    }

    private static void put() {
        DiveChairs x = new DiveChairs();
        x.judge(0, 0);
        Check.is("shelf below", -1, x.put(-1, 0, 0));
        Check.is("shelf above", -1, x.put(8, 0, 0));
        Check.is("nothing", -11, x.put(0, 99, 0));
        x.keep(0, 1, 0);
        Check.is("a judge", -12, x.put(0, 99, 0));
        x.row(0, 0, 2);
        Check.is("place below", -13, x.put(0, -1, 0));
        Check.is("place above", -13, x.put(0, 2, 0));
        Check.is("put", 0, x.put(0, 1, 5));
        Check.is("the other stays", 0, x.element(0, 0));
        int[] values = {128, 255, 256, -129, 65535, 32768, -32769, Integer.MAX_VALUE, Integer.MIN_VALUE, 300};
        for (int sort = 0; sort < 3; sort++) {
            x.row(sort, sort, 1);
            for (int v : values) {
                Check.is("put", 0, x.put(sort, 0, v));
                long due = sort == 0 ? (byte) v : sort == 1 ? (short) v : v;
                Check.is("lowest bits of " + v, due, x.element(sort, 0));
            }
        }
    }

    /** 1 for IllegalArgumentException, 2 for IllegalStateException, 0 for an answer. */
    private static int thrown(DiveChairs x, int d, int i) {
        try {
            x.element(d, i);
            return 0;
        } catch (RuntimeException e) {
            return e.getClass() == IllegalArgumentException.class ? 1 : e.getClass() == IllegalStateException.class ? 2 : 3;
        }
    }

    private static void element() {
        DiveChairs x = new DiveChairs();
        x.judge(0, 0);
        Check.is("shelf below", 1, thrown(x, -1, 0));
        Check.is("shelf above", 1, thrown(x, 8, 0));
        Check.is("shelf far above", 1, thrown(x, Integer.MAX_VALUE, -1));
        Check.is("nothing", 2, thrown(x, 0, 0));
        x.keep(0, 1, 0);
        Check.is("a judge", 2, thrown(x, 0, 0));
        x.row(0, 2, 2);
        Check.is("place below", 2, thrown(x, 0, -1));
        Check.is("place above", 2, thrown(x, 0, 2));
        Check.is("there", 0, thrown(x, 0, 1));
        x.put(0, 1, -7);
        Check.is("its value", -7, x.element(0, 1));
        x.row(0, 2, 0);
        Check.is("empty", 2, thrown(x, 0, 0));
    }

    private static DiveChairs twoRows() {
        DiveChairs x = new DiveChairs();
        x.row(0, 1, 5);
        x.row(1, 1, 3);
        for (int i = 0; i < 5; i++) {
            x.put(0, i, 10 + i);
        }
        return x;
    }

    private static void holds(DiveChairs x, int d, int... due) {
        for (int i = 0; i < due.length; i++) {
            Check.is("element " + i, due[i], x.element(d, i));
        }
    }

    private static void copy() {
        DiveChairs x = twoRows();
        Check.is("two", 2, x.copy(0, 3, 1, 1, 2));
        holds(x, 1, 0, 13, 14);
        holds(x, 0, 10, 11, 12, 13, 14);
        Check.is("behind itself", 4, x.copy(0, 0, 0, 1, 4));
        holds(x, 0, 10, 10, 11, 12, 13);
        Check.is("ahead of itself", 4, x.copy(0, 1, 0, 0, 4));
        holds(x, 0, 10, 11, 12, 13, 13);
        Check.is("none", 0, x.copy(0, 2, 1, 2, 0));
        Check.is("none from the end on", 0, x.copy(0, 5, 1, 3, 0));
        Check.is("all", 3, x.copy(1, 0, 0, 2, 3));
        holds(x, 0, 10, 11, 0, 13, 14);
    }

    private static void copyRefusals() {
        DiveChairs x = twoRows();
        x.judge(0, 0);
        x.keep(3, 1, 0);
        x.row(4, 2, 9);
        Check.is("shelf below", -1, x.copy(-1, 0, 1, 0, 1));
        Check.is("shelf above", -1, x.copy(0, 0, 8, 0, 1));
        Check.is("shelf ahead of nothing", -1, x.copy(2, 0, 8, 0, 1));
        Check.is("from nothing", -11, x.copy(2, 0, 1, 0, 1));
        Check.is("to nothing", -11, x.copy(0, 0, 2, 0, 1));
        Check.is("nothing ahead of a judge", -11, x.copy(3, 0, 2, 0, 1));
        Check.is("from a judge", -12, x.copy(3, 0, 0, 0, 1));
        Check.is("to a judge", -12, x.copy(0, 0, 3, 0, 1));
        x.row(5, 0, 2);
        Check.is("a judge is no row of any sort", -12, x.copy(3, 0, 5, 0, 0));
        Check.is("nor a place for one", -12, x.copy(5, 0, 3, 0, 0));
        Check.is("of unlike sorts", -12, x.copy(0, 0, 4, 0, 1));
        Check.is("sorts ahead of places", -12, x.copy(0, -1, 4, 0, 99));
        Check.is("many below 0", -13, x.copy(0, 0, 1, 0, -1));
        Check.is("from below", -13, x.copy(0, -1, 1, 0, 1));
        Check.is("to below", -13, x.copy(0, 0, 1, -1, 1));
        Check.is("too many from", -13, x.copy(1, 1, 0, 0, 3));
        Check.is("too many to", -13, x.copy(0, 0, 1, 1, 3));
        Check.is("from behind the end", -13, x.copy(0, 6, 1, 0, 0));
        Check.is("to behind the end", -13, x.copy(0, 0, 1, 4, 0));
        Check.is("far too many", -13, x.copy(0, 1, 1, 1, Integer.MAX_VALUE));
        Check.is("from far away", -13, x.copy(0, Integer.MAX_VALUE, 1, 0, 1));
        Check.is("to far away", -13, x.copy(0, 0, 1, Integer.MAX_VALUE, Integer.MAX_VALUE));
        holds(x, 1, 0, 0, 0);
    }

    private static void weights() {
        DiveChairs x = new DiveChairs();
        int[] due = {14, 16, 21, 24, 28, 9, 10, 17};
        for (int kind = 0; kind < 8; kind++) {
            x.judge(kind, 473);
            x.keep(0, 1, kind);
            Check.is("weight of kind " + kind, due[kind], x.weight(0));
        }
        Check.is("stays held", 17, x.weight(0));
        Check.is("shelf below", -1, x.weight(-1));
        Check.is("shelf above", -1, x.weight(8));
        Check.is("nothing", -11, x.weight(1));
        x.row(1, 0, 1);
        Check.is("a row", -12, x.weight(1));
    }

    private static int tossed(int kind, int told) {
        DiveChairs x = new DiveChairs();
        x.judge(0, 0);
        x.judge(0, 0);
        x.judge(kind, told);
        x.keep(5, 1, 2);
        int first = x.toss(5);
        Check.is("once more", first, x.toss(5));
        return first;
    }

    private static void failures() {
        int[] due = {2, -15, 2, 105, 2, 2, 2, 202};
        int[] leanless = {2, -15, -15, -15, 2, 2, 2, 202};
        for (int kind = 0; kind < 8; kind++) {
            Check.is("failure of kind " + kind, due[kind], tossed(kind, 413));
            Check.is("failure without lean of kind " + kind, leanless[kind], tossed(kind, 403));
        }
        DiveChairs x = new DiveChairs();
        Check.is("shelf below", -1, x.toss(-1));
        Check.is("shelf above", -1, x.toss(8));
        Check.is("nothing", -11, x.toss(0));
        x.row(0, 2, 1);
        Check.is("a row", -12, x.toss(0));
    }
}
