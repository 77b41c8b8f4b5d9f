/** Promises 15 to 19: totals, places, who won, who won if, how far chairs can move a diver. */
public final class PlacesTest {
    private static final long NO_TOTAL = -4611686018427387904L;

    public static void main(String[] args) {
        totals();
        longTotals();
        places();
        wonWithoutChair();
        wonWithOtherDroppings();
        wonWithoutLeans();
        wonIfRefusals();
        moved();
        movedAmongOthers();
        Check.finish();
    }

    /** Three divers; a dive counts the sum of its marks. */
    private static DiveChairs sums() {
        DiveChairs x = new DiveChairs();
        x.diver(0, 0);
        x.diver(1, 0);
        x.diver(2, 0);
        Check.is("rule", 2, Scene.rule(x, "d0 0;fs;"));
        return x;
    }

    private static void dive(DiveChairs x, int hall, int diver, int... marks) {
        int dive = x.dive(hall, diver, 0, 1000);
        Scene.tell(x, dive, marks);
    }

    private static void totals() {
        DiveChairs x = sums();
        dive(x, 2, 0, 10, 10);
        dive(x, 2, 1, 4, 20);
        dive(x, 3, 0, 1);
        dive(x, 2, 0, 3);
        Check.is("of two dives", 23, x.total(2, 0));
        Check.is("of one", 24, x.total(2, 1));
        Check.is("in the other hall", 1, x.total(3, 0));
        Check.is("no dives there", NO_TOTAL, x.total(3, 1));
        Check.is("no dives at all", NO_TOTAL, x.total(2, 2));
        Check.is("hall below", NO_TOTAL, x.total(-1, 0));
        Check.is("hall above", NO_TOTAL, x.total(6, 0));
        Check.is("diver below", NO_TOTAL, x.total(2, -1));
        Check.is("diver not made", NO_TOTAL, x.total(2, 3));
        x.dive(4, 2, 0, 1000);
        Check.is("a dive without marks is one", 0, x.total(4, 2));
    }

    private static void longTotals() {
        DiveChairs x = sums();
        Check.is("rule", 1, Scene.rule(x, "f512*512*128*64-1;"));
        dive(x, 0, 0, 1);
        dive(x, 0, 0, 1);
        dive(x, 0, 0, 1);
        dive(x, 0, 1, 1);
        Check.is("in 64 bits", 3L * Integer.MAX_VALUE, x.total(0, 0));
        Check.is("place of it", 1, x.place(0, 0));
        Check.is("place behind it", 2, x.place(0, 1));
        Check.is("rule", 1, Scene.rule(x, "f512*512*128*64;"));
        Check.is("below 0", 3L * Integer.MIN_VALUE, x.total(0, 0));
        Check.is("place of less", 2, x.place(0, 0));
        Check.is("who won", 1, x.won(0));
    }

    private static void places() {
        DiveChairs x = sums();
        dive(x, 2, 0, 10, 10);
        dive(x, 2, 1, 4, 20);
        dive(x, 2, 2, 12, 12);
        dive(x, 2, 0, 3);
        Check.is("behind two", 3, x.place(2, 0));
        Check.is("first", 1, x.place(2, 1));
        Check.is("first too", 1, x.place(2, 2));
        Check.is("the least of two", 1, x.won(2));
        Check.is("no dives there", -4, x.place(0, 0));
        Check.is("nobody there", -4, x.won(0));
        Check.is("hall below", -1, x.place(-1, 0));
        Check.is("hall above", -1, x.place(6, 0));
        Check.is("diver below", -1, x.place(2, -1));
        Check.is("diver not made", -1, x.place(2, 3));
        Check.is("won hall below", -1, x.won(-1));
        Check.is("won hall above", -1, x.won(6));
        dive(x, 5, 2, 0);
        Check.is("alone with 0", 2, x.won(5));
        Check.is("rule", 1, Scene.rule(x, "f0-s;"));
        Check.is("divers without dives are no others", 1, x.place(5, 2));
        Check.is("least loses least", 0, x.won(2));
    }

    private static void wonWithoutChair() {
        DiveChairs x = sums();
        dive(x, 2, 0, 10, 10);
        dive(x, 2, 1, 4, 20);
        dive(x, 2, 2, 12, 12);
        dive(x, 2, 0, 3);
        Check.is("without chair 0", 1, x.wonIf(2, 0, 0));
        Check.is("without chair 1", 0, x.wonIf(2, 0, 1));
        Check.is("without chair 6", 1, x.wonIf(2, 0, 6));
        Check.is("only in mind", 1, x.won(2));
        Check.is("only in mind", 20, x.mark(1, 1));
        Check.is("rule", 1, Scene.rule(x, "d1 0;"));
        Check.is("one mark is then too few", 2, x.won(2));
        Check.is("all have too few", 0, x.wonIf(2, 0, 1));
    }

    private static void wonWithOtherDroppings() {
        DiveChairs x = sums();
        dive(x, 1, 0, 0, 10, 20);
        dive(x, 1, 1, 9, 10, 10);
        Check.is("as it is", 0, x.won(1));
        Check.is("none", 0, x.wonIf(1, 1, 0));
        Check.is("a highest", 1, x.wonIf(1, 1, 10));
        Check.is("a lowest", 0, x.wonIf(1, 1, 1));
        dive(x, 2, 0, 10, 10, 10);
        dive(x, 2, 1, 0, 14, 15);
        Check.is("as it is there", 0, x.wonIf(2, 1, 0));
        Check.is("a lowest there", 1, x.wonIf(2, 1, 1));
        Check.is("one of each", 1, x.wonIf(2, 1, 11));
        Check.is("as many as there are, two highest", 0, x.wonIf(2, 1, 21));
        Check.is("as many as there are, two lowest", 0, x.wonIf(2, 1, 12));
        Check.is("two highest there", 0, x.wonIf(2, 1, 20));
        Check.is("two highest", 1, x.wonIf(1, 1, 20));
        Check.is("too many for all", 0, x.wonIf(1, 1, 33));
        Check.is("only in mind", 0, x.won(1));
        Check.is("dropped stays", 0, x.count(12));
        Check.is("rule", 1, Scene.rule(x, "d1 0;"));
        Check.is("dropped anew", 1, x.won(1));
        Check.is("instead, not more", 0, x.wonIf(1, 1, 0));
        Check.is("rule", 1, Scene.rule(x, "fp*h;"));
        x.diver(0, 0);
        Scene.tell(x, x.dive(4, 0, 0, 3010), 1);
        Scene.tell(x, x.dive(4, 3, 0, 1040), 1);
        Check.is("splash and hard are as they are", 3, x.wonIf(4, 1, 0));
    }

    private static void wonWithoutLeans() {
        DiveChairs x = sums();
        x.judge(2, 150);
        x.judge(3, 251);
        x.judge(0, 190);
        x.judge(4, 190);
        x.chair(0, 0, 0);
        x.chair(0, 1, 1);
        x.chair(0, 2, 2);
        x.chair(0, 3, 3);
        dive(x, 0, 1, 3, -128, 0, 0);
        dive(x, 0, 1, 13);
        dive(x, 0, 0, 9);
        Check.is("with leans", 1, x.won(0));
        Check.is("5 less but 0 at least makes 8", 0, x.wonIf(0, 2, 0));
        dive(x, 0, 1, -128, -128, 1, 1);
        Check.is("kinds that lean to nobody keep theirs", 1, x.wonIf(0, 2, 0));
        dive(x, 1, 2, 12);
        dive(x, 1, 0, 11);
        Check.is("nobody's marks stay", 2, x.wonIf(1, 2, 0));
        x.chair(1, 0, 1);
        Check.is("told before it came", 2, x.wonIf(1, 2, 0));
        Scene.tell(x, 4, 12);
        Check.is("swapping leans to its own", 0, x.wonIf(1, 2, 0));
        Scene.tell(x, 5, 11);
        Check.is("not to others", 0, x.wonIf(1, 2, 0));
        x.chair(1, 0, -1);
        Check.is("marks are of those who gave them", 0, x.wonIf(1, 2, 0));
        x.chair(3, 1, 1);
        dive(x, 3, 1, -128, 12);
        dive(x, 3, 0, 11);
        Check.is("swapping leans to its partner", 0, x.wonIf(3, 2, 0));
        Check.is("only in mind", 1, x.won(3));
        partnerIsOwn();
    }

    private static void partnerIsOwn() {
        DiveChairs x = sums();
        x.judge(3, 151);
        x.chair(0, 0, 0);
        dive(x, 0, 1, 12);
        dive(x, 0, 0, -128, 6);
        Check.is("leans once", 1, x.wonIf(0, 2, 0));
    }

    private static void wonIfRefusals() {
        DiveChairs x = sums();
        Check.is("nobody", -4, x.wonIf(0, 0, 0));
        Check.is("nobody", -4, x.wonIf(0, 1, 33));
        Check.is("nobody", -4, x.wonIf(0, 2, 0));
        Check.is("hall below", -1, x.wonIf(-1, 0, 0));
        Check.is("hall above", -1, x.wonIf(6, 0, 0));
        Check.is("what below", -1, x.wonIf(0, -1, 0));
        Check.is("what above", -1, x.wonIf(0, 3, 0));
        Check.is("chair below", -1, x.wonIf(0, 0, -1));
        Check.is("chair above", -1, x.wonIf(0, 0, 7));
        Check.is("droppings below", -1, x.wonIf(0, 1, -1));
        Check.is("lowest 4", -1, x.wonIf(0, 1, 4));
        Check.is("lowest 9", -1, x.wonIf(0, 1, 29));
        Check.is("highest 4", -1, x.wonIf(0, 1, 40));
        Check.is("leans 1", -1, x.wonIf(0, 2, 1));
    }

    private static void moved() {
        DiveChairs x = sums();
        x.dive(0, 0, 0, 1000);
        x.dive(0, 1, 0, 1000);
        x.dive(0, 2, 0, 1000);
        Scene.tell(x, 0, -128, 0, -128, -128, 0, -128, 0);
        Scene.tell(x, 1, -128, 20, -128, -128, 15, -128, 8);
        Scene.tell(x, 2, -128, 10, -128, -128, 20, -128, 10);
        Check.is("as it is", 3, x.place(0, 0));
        Check.is("by one", 2, x.moved(0, 0, 1, 0));
        Check.is("by chair 4", 16, x.moved(0, 0, 1, 1));
        Check.is("by two", 1, x.moved(0, 0, 2, 0));
        Check.is("by chairs 1, 4", 18, x.moved(0, 0, 2, 1));
        Check.is("by three", 1, x.moved(0, 0, 3, 0));
        Check.is("just three", 19, x.moved(0, 0, 3, 1));
        Check.is("the first stays first", 1, x.moved(0, 1, 1, 0));
        Check.is("by whichever is least", 1, x.moved(0, 1, 1, 1));
        Check.is("only in mind", 3, x.place(0, 0));
        Check.is("no dives there", -4, x.moved(1, 0, 1, 0));
        Check.is("no dives there, set", -4, x.moved(1, 0, 1, 1));
        Check.is("hall below", -1, x.moved(-1, 0, 1, 0));
        Check.is("hall above", -1, x.moved(6, 0, 1, 0));
        Check.is("diver below", -1, x.moved(0, -1, 1, 0));
        Check.is("diver not made", -1, x.moved(0, 3, 1, 0));
        Check.is("by none", -1, x.moved(0, 0, 0, 0));
        Check.is("by four", -1, x.moved(0, 0, 4, 0));
        Check.is("what below", -1, x.moved(0, 0, 1, -1));
        Check.is("what above", -1, x.moved(0, 0, 1, 2));
    }

    private static void movedAmongOthers() {
        DiveChairs x = sums();
        dive(x, 0, 0, 5);
        dive(x, 0, 1, 9);
        dive(x, 1, 1, 20, 20);
        dive(x, 0, 0, -128, 1);
        dive(x, 0, 1, 0, 9);
        Check.is("all its dives and all of the others there", 1, x.moved(0, 0, 1, 0));
        Check.is("chair 0 makes 21 to 9", 1, x.moved(0, 0, 1, 1));
        Check.is("other halls stay", 40, x.total(1, 1));
        Check.is("rule", 1, Scene.rule(x, "f0-s;"));
        Check.is("as it is", 1, x.place(0, 0));
        Check.is("such marks can be bad too", 1, x.moved(0, 0, 1, 0));
        Check.is("a chair without marks is best then", 4, x.moved(0, 0, 1, 1));
    }
}
