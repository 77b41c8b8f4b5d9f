/** Promises 30 to 32: the image is taken and restored, what is counted. */
public final class ImageTest {
    public static void main(String[] args) {
        image();
        imageIsNotTouched();
        shelvesStay();
        counts();
        Check.finish();
    }

    private static DiveChairs scene() {
        DiveChairs x = new DiveChairs();
        x.diver(0, 4);
        x.judge(0, 110);
        x.judge(4, 220);
        x.chair(0, 0, 0);
        x.chair(0, 3, 1);
        x.year(0, 8);
        x.dive(0, 0, 1, 1000);
        x.dive(0, 0, 3, 1000);
        x.markAll(0);
        return x;
    }

    private static void change(DiveChairs x) {
        x.diver(5, 5);
        x.judge(7, 500);
        x.chair(0, 0, -1);
        x.chair(2, 2, 2);
        x.year(0, 9);
        x.year(4, 9);
        x.dive(3, 1, 1, 1000);
        x.markAll(-1);
        Scene.tell(x, 0, 1, 1, 1, 1, 1, 1, 1);
        Check.is("rule", 3, Scene.rule(x, "o0 9;d0 0;f7;"));
    }

    private static void isAsItWas(DiveChairs x) {
        int[] counts = {1, 2, 2, 2, 40, 2, 2, 2, 2, 2, 2, 2, 1, 1};
        for (int what = 0; what < counts.length; what++) {
            Check.is("count " + what, counts[what], x.count(what));
        }
        Check.is("chair 0", 20, x.mark(0, 0));
        Check.is("chair 3", 20, x.mark(0, 3));
        Check.is("chair 1", -4, x.mark(0, 1));
        Check.is("not marked", 0, x.of(1, 6));
        Check.is("worth", 18, x.of(0, 5));
        Check.is("lean of its judge", 1, x.lean(1, 0, 1));
        Check.is("would", 18, x.would(1, 0));
        Check.is("counts", 0, x.counts(0));
        Check.is("year", 8, x.year(0, 8));
        Check.is("other year", 0, x.year(4, 0));
        Check.is("next diver", 1, x.diver(0, 0));
    }

    private static void image() {
        DiveChairs x = scene();
        Check.is("none yet", -3, x.restore());
        Check.is("taken", 2, x.image());
        change(x);
        Check.is("changed", 3, x.count(2));
        Check.is("restored", 2, x.restore());
        isAsItWas(x);
        change(x);
        Check.is("restored once more", 2, x.restore());
        isAsItWas(x);
        Check.is("taken anew", 2, x.image());
        Check.is("of anew", 2, x.restore());
        Check.is("with the diver of then", 2, x.count(0));
    }

    private static void imageIsNotTouched() {
        DiveChairs x = scene();
        Check.is("taken", 2, x.image());
        Check.is("restored", 2, x.restore());
        Scene.tell(x, 0, 7);
        Check.is("rule", 1, Scene.rule(x, "d0 0;"));
        Check.is("restored", 2, x.restore());
        isAsItWas(x);
        DiveChairs empty = new DiveChairs();
        Check.is("of nothing", 0, empty.image());
        empty.diver(0, 0);
        empty.dive(0, 0, 0, 1000);
        Check.is("nothing", 0, empty.restore());
        Check.is("no divers", 0, empty.count(0));
    }

    private static void shelvesStay() {
        DiveChairs x = new DiveChairs();
        x.image();
        x.judge(2, 120);
        x.keep(0, 1, 0);
        x.row(1, 2, 1);
        x.put(1, 0, 77);
        Check.is("restored", 0, x.restore());
        Check.is("no judges", 0, x.count(1));
        Check.is("the judge itself", 13, x.weight(0));
        Check.is("its failure", 0, x.toss(0));
        Check.is("the row", 77, x.element(1, 0));
        Check.is("another judge of its number", 0, x.judge(0, 500));
        Check.is("is another one", 13, x.weight(0));
        x.keep(2, 1, 0);
        Check.is("who weighs more", 15, x.weight(2));
        x.image();
        x.keep(2, 0, 0);
        x.restore();
        Check.is("nothing is restored on shelves", -11, x.weight(2));
    }

    private static void counts() {
        DiveChairs x = scene();
        Check.is("rule", 7, Scene.rule(x, "o0 1;o1 3;o2 5;o3 7;o4 9;o5 11;d3 2;"));
        x.chair(5, 6, 0);
        Scene.tell(x, 1, 20, 0, -128, 5);
        int[] due = {1, 2, 2, 5, 65, 3, 1, 3, 5, 7, 9, 11, 3, 2};
        for (int what = 0; what < due.length; what++) {
            Check.is("count " + what, due[what], x.count(what));
        }
        Check.is("below", -1, x.count(-1));
        Check.is("above", -1, x.count(14));
        Check.is("far below", -1, x.count(Integer.MIN_VALUE));
        Check.is("far above", -1, x.count(Integer.MAX_VALUE));
    }
}
