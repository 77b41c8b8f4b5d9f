import java.util.ArrayList;
import java.util.List;

/** A refused call changes nothing, and of several refusals the first one is told. */
public final class RefusedTest {
    private static final int FAR_NO_SUCH = -1000000001;
    private static final int FAR_NONE = -1000000004;
    private static final long NO_TOTAL = -4611686018427387904L;

    /** Something done to an object. */
    private interface Call {
        long answer(DiveChairs x);
    }

    private static final Call NOTHING_MORE = x -> 0;

    public static void main(String[] args) {
        making();
        chairs();
        roomIsFull();
        marks();
        rules();
        places();
        leans();
        moreThanSeven();
        image();
        shelves();
        copies();
        whatIsReadStays();
        Check.finish();
    }

    /**
     * Shelf 0 SWAPPING, 1 OWN without lean, 2 shorts, 3 ints, 4 nothing, 5 STEADY, 6 a row of marks, 7 the text of
     * the rule; judge 4 has no marks, hall 2 no dives, diver 2 no dives.
     */
    private static DiveChairs scene() {
        DiveChairs x = new DiveChairs();
        x.diver(0, 4);
        x.diver(1, 9);
        x.judge(2, 100);
        x.judge(3, 252);
        x.judge(5, 0);
        x.judge(4, 300);
        x.year(0, 3);
        x.chair(0, 0, 0);
        x.chair(0, 2, 1);
        x.chair(0, 6, 2);
        x.chair(1, 1, 3);
        x.dive(0, 0, 5, 2130);
        x.dive(0, 1, 9, 1090);
        x.markAll(-1);
        x.image();
        x.year(1, 7);
        x.diver(5, 0);
        x.judge(1, 120);
        x.dive(1, 0, 63, 4000);
        x.dive(0, 1, 1, 1550);
        x.markAll(3);
        Scene.rule(x, "o0 3;d0 1;fs*h-p;");
        Scene.tell(x, 2, 5, 17, -128, 20, 0);
        x.keep(0, 1, 1);
        x.keep(1, 1, 0);
        x.keep(5, 1, 4);
        x.row(2, 1, 4);
        x.put(2, 1, -300);
        x.row(3, 2, 2);
        x.put(3, 1, 77777);
        return x;
    }

    private static void look(DiveChairs x, List<Long> seen) {
        for (int what = 0; what < 14; what++) {
            seen.add((long) x.count(what));
        }
        for (int dive = 0; dive < 4; dive++) {
            for (int what = 0; what < 7; what++) {
                seen.add((long) x.of(dive, what));
            }
            for (int chair = 0; chair < 7; chair++) {
                seen.add((long) x.mark(dive, chair));
            }
            seen.add((long) x.counts(dive));
            seen.add((long) x.would(dive, 2));
        }
        for (int judge = 0; judge < 5; judge++) {
            seen.add((long) x.lean(judge, 0, 0));
            seen.add((long) x.lean(judge, 1, 1));
        }
        seen.add(x.total(0, 0));
        seen.add(x.total(0, 1));
        seen.add((long) x.won(0));
        seen.add((long) x.creep(3, 7));
        seen.add((long) x.worlds(0, 9, 9));
    }

    /** The last thing done to an object: what it holds is changed by looking at it. */
    private static List<Long> all(DiveChairs x) {
        List<Long> seen = new ArrayList<>();
        look(x, seen);
        for (int d = 0; d < 8; d++) {
            seen.add((long) x.weight(d));
            seen.add((long) x.toss(d));
            for (int i = 0; i < 20; i++) {
                seen.add(elementOf(x, d, i));
            }
        }
        for (int hall = 0; hall < 3; hall++) {
            seen.add((long) x.year(hall, 0));
            for (int chair = 0; chair < 7; chair++) {
                seen.add((long) x.chair(hall, chair, -1));
            }
        }
        seen.add((long) x.restore());
        look(x, seen);
        return seen;
    }

    private static long elementOf(DiveChairs x, int d, int i) {
        try {
            return x.element(d, i);
        } catch (IllegalStateException e) {
            return Long.MIN_VALUE;
        }
    }

    private static void refused(String what, long refusal, Call call) {
        refusedThen(what, refusal, NOTHING_MORE, call);
    }

    private static void refusedThen(String what, long refusal, Call ahead, Call call) {
        DiveChairs untouched = scene();
        DiveChairs asked = scene();
        ahead.answer(untouched);
        ahead.answer(asked);
        Check.is(what, refusal, call.answer(asked));
        Check.holds(what + " changes nothing", all(untouched).equals(all(asked)));
    }

    private static void making() {
        refused("land", -1, x -> x.diver(6, 0));
        refused("name", -1, x -> x.diver(0, 10));
        refused("kind", -1, x -> x.judge(8, 0));
        refused("land of a judge", -1, x -> x.judge(0, 600));
        refused("partner", -1, x -> x.judge(0, 6));
        refused("hall of a year", -1, x -> x.year(6, 1));
        refused("year above", -1, x -> x.year(0, 41));
        refused("year below", -1, x -> x.year(0, -1));
        refused("hall of a dive", -1, x -> x.dive(6, 0, 0, 1000));
        refused("diver of a dive", -1, x -> x.dive(0, 3, 0, 1000));
        refused("flaws", -1, x -> x.dive(0, 0, 64, 1000));
        refused("hard", -1, x -> x.dive(0, 0, 0, 990));
        refused("last digit", -1, x -> x.dive(0, 0, 0, 1001));
        refused("of a dive not made", -1, x -> x.of(4, 0));
        refused("of what", -1, x -> x.of(0, 7));
        refused("seen", -1, x -> x.seen(6, 0, 0));
    }

    private static void chairs() {
        refused("hall of a chair", -1, x -> x.chair(6, 1, 4));
        refused("chair", -1, x -> x.chair(0, 7, 4));
        refused("judge not made", -1, x -> x.chair(0, 0, 5));
        refused("judge below nobody", -1, x -> x.chair(0, 0, -2));
        refused("on another chair there, over nobody", -3, x -> x.chair(0, 1, 0));
        refused("on another chair there, over another judge", -3, x -> x.chair(0, 2, 0));
        refused("on the last chair there", -3, x -> x.chair(0, 0, 2));
        refused("no such chair goes ahead of another chair", -1, x -> x.chair(0, 7, 0));
        refused("no such chair goes ahead, below", -1, x -> x.chair(0, -1, 0));
    }

    /** Eight divers, twelve judges, forty dives. */
    private static DiveChairs full() {
        DiveChairs x = new DiveChairs();
        for (int n = 0; n < 8; n++) {
            x.diver(n % 6, n);
        }
        for (int n = 0; n < 12; n++) {
            x.judge(0, 100 * (n % 6));
        }
        for (int n = 0; n < 40; n++) {
            x.dive(n % 6, n % 8, n, 1000);
        }
        return x;
    }

    private static void noRoom(String what, int refusal, Call call) {
        DiveChairs x = full();
        Check.is(what, refusal, call.answer(x));
        Check.is("divers behind " + what, 8, x.count(0));
        Check.is("judges behind " + what, 12, x.count(1));
        Check.is("dives behind " + what, 40, x.count(2));
        for (int dive = 0; dive < 40; dive++) {
            Check.is("hall behind " + what, dive % 6, x.of(dive, 0));
            Check.is("diver behind " + what, dive % 8, x.of(dive, 1));
            Check.is("flaws behind " + what, dive, x.of(dive, 2));
        }
        for (int judge = 0; judge < 12; judge++) {
            x.keep(0, 1, judge);
            Check.is("judge behind " + what, 10 + judge % 6, x.weight(0));
        }
    }

    private static void roomIsFull() {
        noRoom("a ninth diver", -2, x -> x.diver(5, 9));
        noRoom("a thirteenth judge", -2, x -> x.judge(2, 595));
        noRoom("a forty-first dive", -2, x -> x.dive(5, 7, 63, 4090));
        noRoom("land ahead of no room", -1, x -> x.diver(6, 0));
        noRoom("name ahead of no room", -1, x -> x.diver(0, -1));
        noRoom("kind ahead of no room", -1, x -> x.judge(8, 0));
        noRoom("told ahead of no room", -1, x -> x.judge(0, 6));
        noRoom("hall ahead of no room", -1, x -> x.dive(6, 0, 0, 1000));
        noRoom("diver ahead of no room", -1, x -> x.dive(0, 8, 0, 1000));
        noRoom("flaws ahead of no room", -1, x -> x.dive(0, 0, -1, 1000));
        noRoom("told of a dive ahead of no room", -1, x -> x.dive(0, 0, 0, 1001));
    }

    private static Call marksOnShelf4(int... marks) {
        return x -> {
            x.row(4, 0, marks.length);
            for (int i = 0; i < marks.length; i++) {
                x.put(4, i, marks[i]);
            }
            return 0;
        };
    }

    private static void marks() {
        refused("would of a dive not made", -1, x -> x.would(4, 0));
        refused("would of no chair goes ahead of nobody", -1, x -> x.would(2, 7));
        refused("would of no dive goes ahead of nobody", -1, x -> x.would(-1, 1));
        refused("nobody would", -4, x -> x.would(2, 0));
        refused("mark all below -1", -1, x -> x.markAll(-2));
        refused("mark all of a dive not made", -1, x -> x.markAll(4));
        refused("marks of a dive not made", -1, x -> x.marks(4, 6));
        refused("no dive goes ahead of nothing held", -1, x -> x.marks(4, 4));
        refused("no dive goes ahead of another kind", -1, x -> x.marks(-1, 0));
        refused("no shelf", -1, x -> x.marks(0, 8));
        refused("marks of nothing", -11, x -> x.marks(0, 4));
        refused("marks of a judge", -12, x -> x.marks(0, 0));
        refused("marks of shorts", -12, x -> x.marks(0, 2));
        refused("marks of ints goes ahead of another number", -12, x -> x.marks(0, 3));
        refusedThen("shorts go ahead of more than seven", -12, x -> x.row(4, 1, 8), x -> x.marks(0, 4));
        refused("the text of a rule is more than seven", -13, x -> x.marks(0, 7));
        refusedThen("eight", -13, marksOnShelf4(0, 0, 0, 0, 0, 0, 0, 0), x -> x.marks(0, 4));
        refusedThen("120", -13, x -> x.row(4, 0, 120), x -> x.marks(0, 4));
        for (int at = 0; at < 7; at++) {
            for (int wrong : new int[] {21, 22, 127, -1, -2, -127}) {
                int[] row = {1, 2, 3, 4, 5, 6, 7};
                row[at] = wrong;
                refusedThen(wrong + " at " + at, -13, marksOnShelf4(row), x -> x.marks(0, 4));
            }
        }
        refused("mark of a dive not made", -1, x -> x.mark(4, 0));
        refused("mark of no chair goes ahead of missing", -1, x -> x.mark(0, 7));
        refused("mark that is missing", -4, x -> x.mark(0, 1));
    }

    private static void badRule(int fault, String text) {
        refusedThen("rule " + text, fault, x -> {
            Scene.text(x, 4, text);
            return 0;
        }, x -> x.rule(4));
    }

    private static void rules() {
        refused("no shelf with a rule", -1, x -> x.rule(8));
        refused("nothing with a rule", -11, x -> x.rule(4));
        refused("a judge is no rule", -12, x -> x.rule(0));
        refused("shorts are no rule", -12, x -> x.rule(2));
        refused("ints are no rule", -12, x -> x.rule(3));
        badRule(-1000, "");
        badRule(-1010, "o0 9;d3 3; ");
        badRule(-1011, "o1 9;d2 2;f");
        badRule(-1017, "o1 9;d2 2;f7;o5 4");
        badRule(-1013, "o1 9;d2 2;f7;;");
        badRule(-2013, "o1 9;d2 2;f7;o6 1;");
        badRule(-2000, "o1 21;d2 2;f7;o5 4;");
        badRule(-2005, "o1 9;d4 2;f7;o5 4;");
        badRule(-2005, "o1 9;d2 4;f7;d9 9;");
        badRule(-1014, "o1 9;d4 2;f7;o");
        refused("counts of a dive not made", FAR_NO_SUCH, x -> x.counts(4));
    }

    private static void places() {
        refused("total of no hall", NO_TOTAL, x -> x.total(6, 0));
        refused("total of a diver not made", NO_TOTAL, x -> x.total(0, 3));
        refused("total of a diver without dives there", NO_TOTAL, x -> x.total(0, 2));
        refused("place of no hall", -1, x -> x.place(6, 0));
        refused("no such diver goes ahead of no dives", -1, x -> x.place(2, 3));
        refused("place without dives there", -4, x -> x.place(0, 2));
        refused("who won in no hall", -1, x -> x.won(6));
        refused("who won in an empty hall", -4, x -> x.won(2));
        refused("won if in no hall", -1, x -> x.wonIf(6, 0, 0));
        refused("won if for no what goes ahead of no dives", -1, x -> x.wonIf(2, 3, 0));
        refused("won if without no chair goes ahead of no dives", -1, x -> x.wonIf(2, 0, 7));
        refused("droppings go ahead of no dives", -1, x -> x.wonIf(2, 1, 34));
        refused("leans go ahead of no dives", -1, x -> x.wonIf(2, 2, 1));
        refused("won if in an empty hall, chair", -4, x -> x.wonIf(2, 0, 6));
        refused("won if in an empty hall, droppings", -4, x -> x.wonIf(2, 1, 33));
        refused("won if in an empty hall, leans", -4, x -> x.wonIf(2, 2, 0));
        refused("moved in no hall", -1, x -> x.moved(6, 0, 1, 0));
        refused("moved, no diver goes ahead of no dives", -1, x -> x.moved(2, 3, 1, 0));
        refused("moved by none goes ahead of no dives", -1, x -> x.moved(2, 0, 0, 0));
        refused("moved by four goes ahead of no dives", -1, x -> x.moved(2, 0, 4, 1));
        refused("moved, no what goes ahead of no dives", -1, x -> x.moved(2, 0, 1, 2));
        refused("moved without dives there", -4, x -> x.moved(0, 2, 3, 0));
        refused("moved without dives there, the set", -4, x -> x.moved(0, 2, 3, 1));
    }

    private static void leans() {
        refused("lean of a judge not made", FAR_NO_SUCH, x -> x.lean(5, 0, 0));
        refused("no such land goes ahead of no marks", FAR_NO_SUCH, x -> x.lean(4, 6, 2));
        refused("no such what goes ahead of no marks", FAR_NO_SUCH, x -> x.lean(4, 0, 4));
        refused("least without marks", FAR_NONE, x -> x.lean(4, 0, 2));
        refused("greatest without marks", FAR_NONE, x -> x.lean(4, 0, 3));
        refused("pair odds of what", -1, x -> x.pairOdds(2));
        refused("order in no hall", FAR_NO_SUCH, x -> x.order(6));
        refused("order odds in no hall", -1, x -> x.orderOdds(6, 0));
        refused("order odds of what", -1, x -> x.orderOdds(0, 2));
        refused("creep from no year goes ahead of nobody", FAR_NO_SUCH, x -> x.creep(41, 9));
        refused("creep to no year goes ahead of nobody", FAR_NO_SUCH, x -> x.creep(9, -1));
        refused("creep of nobody", FAR_NONE, x -> x.creep(3, 9));
        refused("near of a judge not made", -1, x -> x.near(5));
        refused("near without marks", -4, x -> x.near(4));
        refused("seeing with eight", -1, x -> x.seeing(8, 0, 0));
        refused("seeing under 10", -1, x -> x.seeing(1, 10, 0));
        refused("worlds in no hall", -1, x -> x.worlds(6, 1, 1));
        refused("none goes ahead of no dives", -1, x -> x.worlds(2, 0, 1));
        refused("31 goes ahead of no dives", -1, x -> x.worlds(2, 31, 1));
        refused("worlds in an empty hall", -4, x -> x.worlds(2, 30, 1));
        refused("counted what", -1, x -> x.count(14));
    }

    private static void moreThanSeven() {
        Call eightJudges = x -> x.judge(0, 0) + x.judge(0, 0) + x.judge(0, 0);
        refusedThen("eight judges", -3, eightJudges, x -> x.pairOdds(0));
        refusedThen("eight judges, of how many", -3, eightJudges, x -> x.pairOdds(1));
        refusedThen("what goes ahead of eight judges", -1, eightJudges, x -> x.pairOdds(2));
        refusedThen("what below goes ahead of eight judges", -1, eightJudges, x -> x.pairOdds(-1));
        Call eightDives = x -> {
            for (int n = 0; n < 8; n++) {
                x.dive(2, 0, n, 1000);
            }
            return 0;
        };
        refusedThen("eight dives", -3, eightDives, x -> x.orderOdds(2, 0));
        refusedThen("eight dives, of how many", -3, eightDives, x -> x.orderOdds(2, 1));
        refusedThen("what goes ahead of eight dives", -1, eightDives, x -> x.orderOdds(2, 2));
        refusedThen("what below goes ahead of eight dives", -1, eightDives, x -> x.orderOdds(2, -1));
    }

    private static void image() {
        DiveChairs x = full();
        x.year(3, 9);
        x.row(0, 0, 1);
        Check.is("no image", -3, x.restore());
        Check.is("no image yet", -3, x.restore());
        Check.is("divers stay", 8, x.count(0));
        Check.is("judges stay", 12, x.count(1));
        Check.is("dives stay", 40, x.count(2));
        Check.is("a year stays", 9, x.year(3, 9));
        Check.is("a row stays", 0, x.element(0, 0));
        Check.is("an image", 40, x.image());
        Check.is("now there is one", 40, x.restore());
    }

    private static void shelves() {
        refused("keep nothing on no shelf", -1, x -> x.keep(8, 0, 0));
        refused("keep a judge on no shelf", -1, x -> x.keep(-1, 1, 0));
        refused("keep what", -1, x -> x.keep(0, 2, 0));
        refused("keep a judge not made", -1, x -> x.keep(0, 1, 5));
        refused("keep a judge below", -1, x -> x.keep(7, 1, -1));
        refused("row on no shelf", -1, x -> x.row(8, 0, 1));
        refused("row of no sort", -1, x -> x.row(0, 3, 1));
        refused("row of no sort over a row", -1, x -> x.row(7, -1, 1));
        refused("row of 121", -1, x -> x.row(7, 0, 121));
        refused("row below 0", -14, x -> x.row(7, 0, -1));
        refused("row below 0 over a judge", -14, x -> x.row(0, 2, -1));
        refused("no shelf goes ahead of a size below 0", -1, x -> x.row(8, 0, -1));
        refused("no sort goes ahead of a size below 0", -1, x -> x.row(0, 3, -1));
        refused("put on no shelf", -1, x -> x.put(8, 0, 1));
        refused("put on no shelf goes ahead of no place", -1, x -> x.put(-1, -1, 1));
        refused("put on nothing", -11, x -> x.put(4, 0, 1));
        refused("nothing goes ahead of no place", -11, x -> x.put(4, -1, 1));
        refused("put on a judge", -12, x -> x.put(0, 0, 1));
        refused("a judge goes ahead of no place", -12, x -> x.put(0, 120, 1));
        refused("put behind the end", -13, x -> x.put(2, 4, 1));
        refused("put below", -13, x -> x.put(2, -1, 1));
        refusedThen("put in an empty row", -13, x -> x.row(4, 0, 0), x -> x.put(4, 0, 1));
        refused("element of nothing", Long.MIN_VALUE, x -> elementOf(x, 4, 0));
        refused("element of a judge", Long.MIN_VALUE, x -> elementOf(x, 0, 0));
        refused("element behind the end", Long.MIN_VALUE, x -> elementOf(x, 2, 4));
        refused("no shelf goes ahead of no place", 1, RefusedTest::elementOfNoShelf);
        refused("weight on no shelf", -1, x -> x.weight(8));
        refused("weight of nothing", -11, x -> x.weight(4));
        refused("weight of a row", -12, x -> x.weight(2));
        refused("toss on no shelf", -1, x -> x.toss(8));
        refused("toss of nothing", -11, x -> x.toss(4));
        refused("toss of a row", -12, x -> x.toss(2));
        refused("toss of STEADY", -15, x -> x.toss(5));
        refused("toss of OWN without lean", -15, x -> x.toss(1));
    }

    private static long elementOfNoShelf(DiveChairs x) {
        try {
            return x.element(8, -1);
        } catch (IllegalArgumentException e) {
            return 1;
        }
    }

    private static void copies() {
        refused("copy from no shelf", -1, x -> x.copy(8, 0, 6, 0, 1));
        refused("copy to no shelf", -1, x -> x.copy(6, 0, -1, 0, 1));
        refused("no shelf goes ahead of nothing", -1, x -> x.copy(4, 0, 8, 0, 1));
        refused("no shelf goes ahead of a judge", -1, x -> x.copy(8, 0, 0, 0, 1));
        refused("no shelf goes ahead of no place", -1, x -> x.copy(6, 99, 8, 0, -1));
        refused("copy from nothing", -11, x -> x.copy(4, 0, 6, 0, 1));
        refused("copy to nothing", -11, x -> x.copy(6, 0, 4, 0, 1));
        refused("copy nothing to itself", -11, x -> x.copy(4, 0, 4, 0, 0));
        refused("nothing goes ahead of a judge", -11, x -> x.copy(0, 0, 4, 0, 1));
        refused("nothing goes ahead of a judge, first", -11, x -> x.copy(4, 0, 0, 0, 1));
        refused("nothing goes ahead of no place", -11, x -> x.copy(6, 99, 4, 0, -1));
        refused("copy from a judge", -12, x -> x.copy(0, 0, 6, 0, 1));
        refused("copy to a judge", -12, x -> x.copy(6, 0, 0, 0, 1));
        refused("copy a judge to itself", -12, x -> x.copy(0, 0, 0, 0, 0));
        refused("copy bytes to shorts", -12, x -> x.copy(6, 0, 2, 0, 1));
        refused("copy shorts to ints", -12, x -> x.copy(2, 0, 3, 0, 1));
        refused("copy ints to bytes", -12, x -> x.copy(3, 0, 6, 0, 1));
        refused("copy none of another sort", -12, x -> x.copy(3, 0, 2, 0, 0));
        refused("sorts go ahead of no place", -12, x -> x.copy(3, -1, 2, 9, -1));
        refused("copy -1", -13, x -> x.copy(7, 0, 6, 0, -1));
        refused("copy from below", -13, x -> x.copy(7, -1, 6, 0, 1));
        refused("copy to below", -13, x -> x.copy(7, 0, 6, -1, 1));
        refused("copy one too many from there", -13, x -> x.copy(6, 2, 7, 0, 4));
        refused("copy one too many to there", -13, x -> x.copy(7, 0, 6, 2, 4));
        refused("copy none from below", -13, x -> x.copy(7, -1, 6, 0, 0));
        refused("copy none to below", -13, x -> x.copy(7, 0, 6, -1, 0));
        refused("copy far too many", -13, x -> x.copy(7, 1, 6, 1, Integer.MAX_VALUE));
        refused("copy from far away", -13, x -> x.copy(7, Integer.MAX_VALUE, 6, 0, 1));
        refused("copy to far away", -13, x -> x.copy(7, 0, 6, Integer.MAX_VALUE, 1));
    }

    /** "The ROW that is read, and what is taken from a SHELF, stay there." */
    private static void whatIsReadStays() {
        DiveChairs x = scene();
        String text = "o0 3;d0 1;fs*h-p;";
        Check.is("read", 3, x.rule(7));
        for (int i = 0; i < text.length(); i++) {
            Check.is("the text stays", text.charAt(i), x.element(7, i));
        }
        int[] marks = {5, 17, -128, 20, 0};
        Check.is("marks", 4, x.marks(1, 6));
        Check.is("marks of another dive", 4, x.marks(2, 6));
        for (int i = 0; i < marks.length; i++) {
            Check.is("the marks stay", marks[i], x.element(6, i));
        }
        Check.is("weight", 19, x.weight(0));
        Check.is("failure", 103, x.toss(0));
        Check.is("weight again", 19, x.weight(0));
        Check.is("failure again", 103, x.toss(0));
        x.put(6, 0, 9);
        Check.is("a mark is not what is put later", 5, x.mark(1, 0));
        x.put(7, 0, 'x');
        Check.is("nor is a rule", 3, x.count(6));
        x.keep(6, 0, 0);
        x.keep(7, 0, 0);
        Check.is("marks without their row", 17, x.mark(1, 1));
        Check.is("a rule without its row", (5 + 17 + 20) * 10 - 9, x.counts(1));
    }
}
