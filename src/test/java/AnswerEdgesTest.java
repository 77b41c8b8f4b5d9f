import java.util.Arrays;

/** The edges of what can be asked: places, who won if, moved, leans, pairs, orders, creep, the nearest, worlds. */
public final class AnswerEdgesTest {
    private static final long NO_TOTAL = -4611686018427387904L;
    private static final int FAR_NONE = -1000000004;

    public static void main(String[] args) {
        totals();
        placesOfAlikeOnes();
        wonIfEachChair();
        wonIfEachDropping();
        wonIfLeansAreTakenOff();
        lastOnesInMind();
        movedByTwentyAndZero();
        movedByEachSet();
        movedDownByAll();
        movedAmongEight();
        leansOfNoneAndOne();
        pairsAboveZero();
        pairsAddUp();
        missingMarksDoNotLean();
        pairsApart();
        pairOddsOfFew();
        pairOddsOfSeven();
        orders();
        creepIsCut();
        creepOfSome();
        nearestExactly();
        nobodysMarks();
        seeingOfAll();
        worldsFromSeeds();
        worldsWithTies();
        imageTwice();
        Check.finish();
    }

    private static void rule(DiveChairs x, String text) {
        Check.holds("rule " + text, Scene.rule(x, text) > 0);
    }

    private static int dive(DiveChairs x, int hall, int diver, int... marks) {
        int dive = x.dive(hall, diver, 0, 1000);
        Scene.tell(x, dive, marks);
        return dive;
    }

    /** Divers of lands 0, 1, 2; a dive counts the sum of its marks. */
    private static DiveChairs sums() {
        DiveChairs x = new DiveChairs();
        x.diver(0, 0);
        x.diver(1, 0);
        x.diver(2, 0);
        rule(x, "d0 0;fs;");
        return x;
    }

    private static void totals() {
        DiveChairs x = sums();
        x.dive(3, 0, 0, 1000);
        Check.is("a dive without marks is one", 0, x.total(3, 0));
        Check.is("another hall", NO_TOTAL, x.total(2, 0));
        Check.is("another diver", NO_TOTAL, x.total(3, 1));
        rule(x, "f0-512*512*128*64;");
        Scene.tell(x, 0, 0);
        dive(x, 3, 0, 0);
        Check.is("twice the least int", 2L * Integer.MIN_VALUE, x.total(3, 0));
        Check.is("which is far from none", 1, x.place(3, 0));
        rule(x, "f512*512*128*64-1;");
        Check.is("twice the greatest int", 2L * Integer.MAX_VALUE, x.total(3, 0));
    }

    /** "1 and how many other DIVERS who have DIVES there have a greater TOTAL"; "the least DIVER with PLACE 1". */
    private static void placesOfAlikeOnes() {
        DiveChairs x = sums();
        x.diver(3, 0);
        dive(x, 0, 2, 9);
        Check.is("alone", 1, x.place(0, 2));
        Check.is("won alone", 2, x.won(0));
        dive(x, 0, 1, 9);
        Check.is("alike", 1, x.place(0, 1));
        Check.is("alike", 1, x.place(0, 2));
        Check.is("the least of two", 1, x.won(0));
        dive(x, 0, 3, 8);
        Check.is("behind two alike ones", 3, x.place(0, 3));
        Check.is("one who has no dives there", -4, x.place(0, 0));
        x.dive(0, 0, 0, 1000);
        Check.is("one whose dive has no marks", 4, x.place(0, 0));
        rule(x, "f0;");
        for (int diver = 0; diver < 4; diver++) {
            Check.is("all alike", 1, x.place(0, diver));
        }
        Check.is("the least of all", 0, x.won(0));
    }

    private static int[] without(int[] marks, int chair) {
        int[] left = marks.clone();
        left[chair] = -128;
        return left;
    }

    /** Without a chair it is as if its marks had not been told, chair by chair. */
    private static void wonIfEachChair() {
        int[][] marks = {{9, 3, 20, 7, 0, 12, 6}, {2, 9, 4, 20, 12, 1, 9}, {13, 12, 1, 0, 20, 5, 7}};
        for (int chair = 0; chair < 7; chair++) {
            DiveChairs x = sums();
            DiveChairs y = sums();
            for (int diver = 0; diver < 3; diver++) {
                dive(x, 4, diver, marks[diver]);
                dive(y, 4, diver, without(marks[diver], chair));
            }
            Check.is("as untold, chair " + chair, y.won(4), x.wonIf(4, 0, chair));
            Check.is("only in mind", marks[0][chair], x.mark(0, chair));
            aloneDecides(chair);
        }
    }

    private static void aloneDecides(int chair) {
        DiveChairs x = sums();
        int[] better = {1, 1, 1, 1, 1, 1, 1};
        better[chair] = 20;
        dive(x, 5, 0, 2, 2, 2, 2, 2, 2, 2);
        dive(x, 5, 1, better);
        Check.is("with chair " + chair, 1, x.won(5));
        for (int other = 0; other < 7; other++) {
            Check.is("but for chair " + chair + ", " + other, other == chair ? 0 : 1, x.wonIf(5, 0, other));
        }
    }

    /** "10 of the highest and the lowest": as with a rule that drops so many. */
    private static void wonIfEachDropping() {
        int[][] marks = {{9, 3, 20, 7, 0, 12, 6}, {2, 9, 4, 20, 12, 1, 9}, {8, 8, 8, 8, 8, 8, 8}};
        for (int n = 0; n <= 33; n++) {
            if (n % 10 > 3) {
                continue;
            }
            for (int many = 1; many <= 7; many++) {
                DiveChairs x = sums();
                DiveChairs y = sums();
                for (int diver = 0; diver < 3; diver++) {
                    dive(x, 2, diver, Arrays.copyOf(marks[diver], many));
                    dive(y, 2, diver, Arrays.copyOf(marks[diver], many));
                }
                rule(y, "d" + n / 10 + " " + n % 10 + ";");
                Check.is("as ruled " + n + " of " + many, y.won(2), x.wonIf(2, 1, n));
                Check.is("only in mind", 0, x.count(12) + x.count(13));
            }
        }
    }

    /** "less LEAN where their KIND leans, 0 at least", from each chair. */
    private static void wonIfLeansAreTakenOff() {
        for (int chair = 0; chair < 7; chair++) {
            for (int kind = 0; kind < 8; kind++) {
                DiveChairs x = sums();
                x.judge(kind, 52);
                x.chair(3, chair, 0);
                int[] marks = {-128, -128, -128, -128, -128, -128, -128};
                marks[chair] = 9;
                dive(x, 3, 0, marks);
                boolean own = kind == 2 || kind == 3;
                Check.is("9 less 5 is less than 5", own ? 1 : 0, wonAgainst(x, chair, 5));
                Check.is("9 less 5 is 4", 0, wonAgainst(x, chair, 4));
                marks[chair] = 3;
                Scene.tell(x, 0, marks);
                Check.is("3 less 5 is 0 at least", 0, wonAgainst(x, chair, 0));
                Check.is("3 less 5 is less than 1", own ? 1 : 0, wonAgainst(x, chair, 1));
                partnersMark(x, chair, kind == 3);
            }
        }
    }

    /** Who wins in hall 3 without leans, diver 1 having the mark of nobody; the object stays as it was. */
    private static int wonAgainst(DiveChairs x, int chair, int mark) {
        x.image();
        x.chair(3, chair, -1);
        int[] marks = {-128, -128, -128, -128, -128, -128, -128};
        marks[chair] = mark;
        dive(x, 3, 1, marks);
        int won = x.wonIf(3, 2, 0);
        x.restore();
        return won;
    }

    private static void partnersMark(DiveChairs x, int chair, boolean swaps) {
        int[] marks = {-128, -128, -128, -128, -128, -128, -128};
        marks[chair] = 9;
        dive(x, 3, 2, marks);
        marks[chair] = 1;
        Scene.tell(x, 0, marks);
        Check.is("9 of its partner's, against 8", swaps ? 1 : 2, wonAgainst(x, chair, 8));
        marks[chair] = 9;
        dive(x, 3, 1, marks);
        Check.is("of no land of its, 9 and 0 against 9", 1, wonAgainst(x, chair, 9));
    }

    /** What is in mind has the eighth diver's land and name and the twelfth judge, too. */
    private static void lastOnesInMind() {
        DiveChairs x = new DiveChairs();
        for (int n = 0; n < 8; n++) {
            x.diver(n == 7 ? 5 : 0, n == 7 ? 9 : 0);
        }
        for (int n = 0; n < 12; n++) {
            x.judge(n == 11 ? 2 : 4, n == 11 ? 590 : 0);
        }
        rule(x, "d0 0;fs;");
        x.chair(5, 6, 11);
        x.dive(5, 6, 0, 1000);
        x.dive(5, 7, 0, 1000);
        Scene.tell(x, 0, 4, -128, -128, -128, -128, -128, 8);
        Scene.tell(x, 1, 3, -128, -128, -128, -128, -128, 20);
        Check.is("3 and 20 less 9 are more than 4 and 8", 7, x.wonIf(5, 2, 0));
        Scene.tell(x, 1, 0, -128, -128, -128, -128, -128, 20);
        Check.is("20 less 9 is less than 4 and 8", 6, x.wonIf(5, 2, 0));
        x.chair(5, 6, 10);
        for (int seed = 0; seed < 20; seed++) {
            Check.is("the last diver's name", rightByName(seed), x.worlds(5, 30, seed));
        }
        x.chair(5, 6, 11);
        for (int seed = 0; seed < 20; seed++) {
            Check.is("the last judge's lean to it", rightByLean(seed), x.worlds(5, 30, seed));
        }
    }

    /** From chair 6, as from chair 0, parts 1, 2, 4, 5 are seen. */
    private static int wonBy(int flaws, int otherFlaws, int more) {
        int own = 20 - 2 * Integer.bitCount(flaws & 54);
        int other = 20 - 2 * Integer.bitCount(otherFlaws & 54) + more;
        return Math.min(20, other) > own ? 7 : 6;
    }

    private static int rightByName(int seed) {
        int z = seed;
        int right = 0;
        for (int world = 0; world < 30; world++) {
            int first = z * 1103515245 + 12345;
            z = first * 1103515245 + 12345;
            int more = 4 + (Integer.bitCount(flawsOf(first)) <= 2 ? 1 : 0);
            right += isRight(flawsOf(first), flawsOf(z), wonBy(flawsOf(first), flawsOf(z), more));
        }
        return right;
    }

    private static int rightByLean(int seed) {
        int z = seed;
        int right = 0;
        for (int world = 0; world < 30; world++) {
            int first = z * 1103515245 + 12345;
            z = first * 1103515245 + 12345;
            right += isRight(flawsOf(first), flawsOf(z), wonBy(flawsOf(first), flawsOf(z), 9));
        }
        return right;
    }

    private static int isRight(int flaws, int otherFlaws, int won) {
        int worth = 20 - 2 * Integer.bitCount(flaws);
        int otherWorth = 20 - 2 * Integer.bitCount(otherFlaws);
        return (won == 6 ? worth >= otherWorth : otherWorth >= worth) ? 1 : 0;
    }

    /** "by MARKS of 20 on its DIVES, of 0 on all others' of that HALL (only where a MARK is)". */
    private static void movedByTwentyAndZero() {
        DiveChairs x = sums();
        dive(x, 0, 0, 0);
        dive(x, 0, 1, -128, 20, 1);
        Check.is("20 is less than 21", 2, x.moved(0, 0, 1, 0));
        Scene.tell(x, 1, -128, 20);
        Check.is("20 is as much as 20", 1, x.moved(0, 0, 1, 0));
        Check.is("by chair 0", 1, x.moved(0, 0, 1, 1));
        x.dive(1, 0, 0, 1000);
        dive(x, 1, 1, -128, -128, -128, -128, -128, -128, 7);
        Check.is("without a mark it stays at 0, 0 is as much", 1, x.moved(1, 0, 1, 0));
        Check.is("by chair 6", 64, x.moved(1, 0, 1, 1));
        dive(x, 1, 2, -128, -128, -128, -128, -128, 3);
        Check.is("one of two ahead goes to 0", 2, x.moved(1, 0, 1, 0));
        Check.is("by chair 5, the least as bits", 32, x.moved(1, 0, 1, 1));
        Check.is("both of two", 1, x.moved(1, 0, 2, 0));
        Check.is("by chairs 5, 6", 96, x.moved(1, 0, 2, 1));
        Check.is("just three", 97, x.moved(1, 0, 3, 1));
        x.dive(2, 0, 0, 1000);
        Check.is("alone, without marks", 1, x.moved(2, 0, 3, 0));
        Check.is("alone, the least set of three", 7, x.moved(2, 0, 3, 1));
        Check.is("alone, the least set of two", 3, x.moved(2, 0, 2, 1));
        Check.is("alone, the least set of one", 1, x.moved(2, 0, 1, 1));
    }

    /** There are seven chairs and no more, and just so many move it: not fewer, where all of them do harm. */
    private static void movedDownByAll() {
        DiveChairs x = sums();
        dive(x, 0, 0, 10, 10, 10, 10, 10, 10, 10);
        dive(x, 0, 1, 10, 10, 10, 10, 10, 10, 10);
        rule(x, "f140-s;");
        Check.is("alike before", 1, x.place(0, 0));
        for (int n = 1; n <= 3; n++) {
            Check.is("behind by each " + n, 2, x.moved(0, 0, n, 0));
            Check.is("the least set of " + n, (1 << n) - 1, x.moved(0, 0, n, 1));
        }
    }

    /** Places go as far as 8, and so does the least of them. */
    private static void movedAmongEight() {
        DiveChairs x = new DiveChairs();
        for (int diver = 0; diver < 8; diver++) {
            x.diver(0, 0);
        }
        rule(x, "d0 0;fs;");
        x.dive(4, 0, 0, 1000);
        for (int diver = 1; diver < 8; diver++) {
            dive(x, 4, diver, -128, 20, 20, 20, 20);
            Check.is("behind " + diver + ", whatever one chair does", diver + 1, x.moved(4, 0, 1, 0));
            Check.is("by the least", 1, x.moved(4, 0, 1, 1));
            Check.is("whatever three chairs do", diver + 1, x.moved(4, 0, 3, 0));
            Check.is("by the least three", 7, x.moved(4, 0, 3, 1));
        }
    }

    private static int[] movedMarks(int[] marks, int set, int mark) {
        int[] other = marks.clone();
        for (int chair = 0; chair < 7; chair++) {
            if ((set >> chair & 1) != 0 && other[chair] != -128) {
                other[chair] = mark;
            }
        }
        return other;
    }

    /** As if the marks had been told so, over all sets. */
    private static void movedByEachSet() {
        int[][] marks = {{1, -128, 3, 0, 2, 4, 1}, {14, 20, 8, 18, 9, 20, -128}, {7, 3, 20, 20, 19, 12, 15}};
        for (int n = 1; n <= 3; n++) {
            int least = 9;
            int leastSet = 0;
            for (int set = 0; set < 128; set++) {
                if (Integer.bitCount(set) == n) {
                    DiveChairs y = sums();
                    for (int diver = 0; diver < 3; diver++) {
                        dive(y, 0, diver, movedMarks(marks[diver], set, diver == 0 ? 20 : 0));
                    }
                    int place = y.place(0, 0);
                    if (place < least) {
                        least = place;
                        leastSet = set;
                    }
                }
            }
            DiveChairs x = sums();
            for (int diver = 0; diver < 3; diver++) {
                dive(x, 0, diver, marks[diver]);
            }
            Check.is("place by " + n, least, x.moved(0, 0, n, 0));
            Check.is("set of " + n, leastSet, x.moved(0, 0, n, 1));
            Check.is("marks stay", 1, x.mark(0, 0));
            Check.is("others' marks stay", 15, x.mark(2, 6));
        }
    }

    private static void leanIs(String what, DiveChairs x, int... due) {
        for (int w = 0; w < 4; w++) {
            Check.is(what + ", " + w, due[w], x.lean(0, 0, w));
        }
    }

    /** "-1000000004: no MARKS (2, 3)"; with one mark all but how many are alike. */
    private static void leansOfNoneAndOne() {
        for (int chair = 0; chair < 7; chair++) {
            DiveChairs x = sums();
            x.judge(0, 0);
            x.chair(0, chair, 0);
            leanIs("no dives", x, 0, 0, FAR_NONE, FAR_NONE);
            int[] marks = {5, 5, 5, 5, 5, 5, 5};
            marks[chair] = -128;
            int dive = dive(x, 0, 0, marks);
            leanIs("no mark of its", x, 0, 0, FAR_NONE, FAR_NONE);
            marks[chair] = 20;
            dive(x, 0, 1, marks);
            leanIs("a mark for another land", x, 0, 0, FAR_NONE, FAR_NONE);
            Scene.tell(x, dive, marks);
            leanIs("15 above the middle", x, 15, 1, 15, 15);
            marks[chair] = 0;
            Scene.tell(x, dive, marks);
            leanIs("5 below the middle", x, -5, 1, -5, -5);
            marks[chair] = 6;
            dive(x, 0, 0, marks);
            leanIs("1 above, too", x, -4, 2, -5, 1);
            int[] alone = {-128, -128, -128, -128, -128, -128, -128};
            alone[chair] = 13;
            dive(x, 0, 0, alone);
            leanIs("alone it is the middle", x, -4, 3, -5, 1);
        }
    }

    /** Judges of lands 0 and 1 on the chair told, in halls 0 and 1, with marks so far from the middle 10. */
    private static DiveChairs two(int chair, int first, int second) {
        DiveChairs x = sums();
        x.judge(0, 0);
        x.judge(0, 100);
        x.chair(0, chair, 0);
        x.chair(1, chair, 1);
        int[] marks = {10, 10, 10, 10, 10, 10, 10};
        marks[chair] = 10 + first;
        dive(x, 0, 1, marks);
        marks[chair] = 10 + second;
        dive(x, 1, 0, marks);
        return x;
    }

    /** "each with a LEAN sum above 0". */
    private static void pairsAboveZero() {
        for (int chair = 0; chair < 7; chair++) {
            for (int first = -1; first <= 1; first++) {
                for (int second = -1; second <= 1; second++) {
                    int due = first > 0 && second > 0 ? 1 : 0;
                    DiveChairs x = two(chair, first, second);
                    Check.is("pairs of " + first + ", " + second, due, x.pairs());
                    Check.is("ways", 2, x.pairOdds(1));
                    Check.is("ways with as many", due == 1 ? 1 : 2, x.pairOdds(0));
                }
            }
        }
    }

    /** A LEAN's sum is over all marks, not the last or the first one. */
    private static void pairsAddUp() {
        int[][] marks = {{5, -1}, {-1, 5}, {1, -5}, {-5, 1}, {3, -3}, {-3, 4}, {0, 1}};
        for (int[] two : marks) {
            DiveChairs x = two(2, two[0], 1);
            dive(x, 0, 1, 10, 10, 10 + two[1], 10, 10);
            Check.is("sum of " + two[0] + ", " + two[1], two[0] + two[1] > 0 ? 1 : 0, x.pairs());
            Check.is("the sum", two[0] + two[1], x.lean(0, 1, 0));
        }
    }

    /** A JUDGE on its CHAIR whose MARK is MISSING has none: told so, left out, at first, and taken away. */
    private static void missingMarksDoNotLean() {
        DiveChairs x = two(2, 1, 1);
        dive(x, 0, 1, 10, 10, -128, 10, 10);
        dive(x, 0, 1, 20, 20);
        x.dive(0, 1, 0, 1000);
        dive(x, 0, 1);
        Check.is("the sum of one mark", 1, x.lean(0, 1, 0));
        Check.is("one mark", 1, x.lean(0, 1, 1));
        Check.is("near", 1, x.near(0));
        Check.is("a pair", 1, x.pairs());
        Check.is("one way of two", 1, x.pairOdds(0));
        Scene.tell(x, 0, 10, 10, -128, 10, 10);
        Check.is("no mark", 0, x.lean(0, 1, 1));
        Check.is("no pair", 0, x.pairs());
        Check.is("no marks", -4, x.near(0));
        Check.is("nor creeps", 0, x.creep(0, 0));
        x.year(1, 9);
        Check.is("in hall 0 nobody has marks", FAR_NONE, x.creep(0, 9));
    }

    /** "on CHAIRS of no HALL together, or on none (now)". */
    private static void pairsApart() {
        for (int hall = 0; hall < 6; hall++) {
            DiveChairs x = two(3, 1, 1);
            x.chair(0, 3, -1);
            x.chair(1, 3, -1);
            Check.is("both on none", 1, x.pairs());
            x.chair(hall, 0, 0);
            Check.is("one on none", 1, x.pairs());
            x.chair(hall, 6, 1);
            Check.is("together in hall " + hall, 0, x.pairs());
            Check.is("all ways are as good", 2, x.pairOdds(0));
            x.chair((hall + 1) % 6, 6, 0);
            Check.is("together in one of two", 0, x.pairs());
            x.chair(hall, 0, -1);
            Check.is("each in its own hall", 1, x.pairs());
        }
    }

    private static void pairOddsOfFew() {
        DiveChairs x = new DiveChairs();
        Check.is("no judges: one way", 1, x.pairOdds(1));
        Check.is("no judges: it is as good", 1, x.pairOdds(0));
        int ways = 1;
        for (int judges = 1; judges <= 7; judges++) {
            x.judge(0, judges % 3 * 100);
            ways *= judges;
            Check.is("ways of " + judges, ways, x.pairOdds(1));
            Check.is("without pairs all are as good", ways, x.pairOdds(0));
        }
        x.judge(0, 0);
        Check.is("eight", -3, x.pairOdds(0));
        Check.is("eight, of how many", -3, x.pairOdds(1));
        Check.is("pairs of eight", 0, x.pairs());
        leansOfOtherTimes();
    }

    /** What was asked before does not count: judge 0 leans to land 0, then no more. */
    private static void leansOfOtherTimes() {
        DiveChairs x = sums();
        x.judge(0, 100);
        x.judge(0, 0);
        x.chair(0, 0, 0);
        x.chair(1, 0, 1);
        dive(x, 0, 0, 11, 10, 10);
        dive(x, 1, 1, 11, 10, 10);
        Check.is("a pair", 1, x.pairs());
        Scene.tell(x, 0, 10, 10, 10);
        Check.is("no pair", 0, x.pairs());
        Scene.tell(x, 0, 11, 10, 10);
        Scene.tell(x, 1, 10, 10, 10);
        Check.is("nor with the other one", 0, x.pairs());
    }

    /** Two of seven judges lean to lands 0, 1 of one another: they must get just these two lands. */
    private static void pairOddsOfSeven() {
        DiveChairs x = two(0, 1, 1);
        for (int n = 0; n < 5; n++) {
            x.judge(0, 300);
        }
        Check.is("a pair of seven", 1, x.pairs());
        Check.is("5! of them", 120, x.pairOdds(0));
        Check.is("of 7!", 5040, x.pairOdds(1));
        DiveChairs last = sums();
        for (int n = 0; n < 5; n++) {
            last.judge(0, 300);
        }
        last.judge(0, 0);
        last.judge(0, 100);
        last.chair(4, 6, 5);
        last.chair(5, 6, 6);
        dive(last, 4, 1, 1, 1, 1, 1, 1, 1, 2);
        dive(last, 5, 0, 1, 1, 1, 1, 1, 1, 2);
        Check.is("a pair of the last two", 1, last.pairs());
        Check.is("5! for the last two", 120, last.pairOdds(0));
    }

    /** "over all two of its DIVES"; "of all orders of its DIVES (7 at most, else -3; of none one)". */
    private static void orders() {
        DiveChairs x = sums();
        dive(x, 1, 0, 5);
        Check.is("none", 0, x.order(0));
        Check.is("none: one order", 1, x.orderOdds(0, 1));
        Check.is("none: it is as much", 1, x.orderOdds(0, 0));
        int ways = 1;
        for (int many = 1; many <= 7; many++) {
            dive(x, 0, many % 3, many);
            ways *= many;
            Check.is("rising " + many, many * (many - 1) / 2, x.order(0));
            Check.is("orders of " + many, ways, x.orderOdds(0, 1));
            Check.is("one is as much", 1, x.orderOdds(0, 0));
        }
        dive(x, 0, 0, 0);
        Check.is("one falls below seven", 21 - 7, x.order(0));
        Check.is("eight", -3, x.orderOdds(0, 0));
        Check.is("eight, of how many", -3, x.orderOdds(0, 1));
        Check.is("one in another hall", 1, x.orderOdds(1, 1));
        rule(x, "f5;");
        Check.is("all alike", 0, x.order(0));
    }

    /** "each mean (the sum times 100 by how many) cut". */
    private static void creepIsCut() {
        DiveChairs x = sums();
        x.judge(0, 0);
        x.judge(0, 0);
        x.chair(5, 6, 0);
        x.chair(4, 6, 0);
        x.year(5, 40);
        x.year(4, 39);
        Check.is("no marks", FAR_NONE, x.creep(39, 40));
        dive(x, 5, 0, 1, 1, 1, 1, 1, 1, 20);
        Check.is("in one year only", FAR_NONE, x.creep(39, 40));
        Check.is("nor the other way", FAR_NONE, x.creep(40, 39));
        Check.is("from a year to itself", 0, x.creep(40, 40));
        dive(x, 4, 0, 1, 1, 1, 1, 1, 1, 0);
        Check.is("0 is a mark", 2000, x.creep(39, 40));
        Check.is("and less than 20", -2000, x.creep(40, 39));
        dive(x, 4, 0, 1, 1, 1, 1, 1, 1, 1);
        dive(x, 4, 0, 1, 1, 1, 1, 1, 1, 1);
        Check.is("2 by 3 is 66", 2000 - 66, x.creep(39, 40));
        Check.is("cut ahead of the difference", 66 - 2000, x.creep(40, 39));
        x.chair(4, 0, 1);
        Scene.tell(x, 1, 7, 1, 1, 1, 1, 1, 0);
        Check.is("one who judged in one year only does not matter", 2000 - 66, x.creep(39, 40));
        x.year(4, 40);
        Check.is("years as they are now", FAR_NONE, x.creep(39, 40));
        Check.is("both halls of one year", 0, x.creep(40, 40));
    }

    /** Two judges: each mean is cut by itself, the differences are added; two halls of one year are one. */
    private static void creepOfSome() {
        DiveChairs x = sums();
        for (int judge = 0; judge < 2; judge++) {
            x.judge(0, 0);
            x.chair(0, judge, judge);
            x.chair(1, judge, judge);
            x.chair(2, judge, judge);
        }
        x.year(2, 1);
        x.year(1, 1);
        dive(x, 0, 0, 3, 4);
        dive(x, 0, 0, 4, 4);
        dive(x, 0, 0, 4, 3);
        dive(x, 1, 0, 5, 0);
        dive(x, 2, 0, 6, 1);
        dive(x, 2, 0, 6, 1);
        Check.is("566 - 366, 66 - 366", 200 - 300, x.creep(0, 1));
        Check.is("the other way", 300 - 200, x.creep(1, 0));
    }

    /** "the one for which that by how many MARKS is least (exactly), of several the least". */
    private static void nearestExactly() {
        DiveChairs x = sums();
        for (int judge = 0; judge < 12; judge++) {
            x.judge(0, 0);
        }
        Check.is("no marks", -4, x.nearest());
        x.chair(0, 6, 11);
        dive(x, 0, 0, 5, 5, 5, 5, 5, 5, 20);
        Check.is("the only one with marks", 11, x.nearest());
        x.chair(0, 5, 10);
        Scene.tell(x, 0, 5, 5, 5, 5, 5, 20, 20);
        Check.is("of two the least", 10, x.nearest());
        x.chair(0, 0, 0);
        Scene.tell(x, 0, 6, 5, 5, 5, 5, 5, 5);
        for (int n = 0; n < 2; n++) {
            dive(x, 0, 0, 5, 5, 5, 5, 5, 5, 5);
        }
        Check.is("1 by 3, 0 by 3, 0 by 3", 10, x.nearest());
        Scene.tell(x, 1, 5, 5, 5, 5, 5, 6, 6);
        Check.is("1 by 3 thrice: the least", 0, x.nearest());
        dive(x, 0, 0, 6, 5, 5, 5, 5, 5, 5);
        Check.is("2 by 4, 1 by 4, 1 by 4", 10, x.nearest());
        Scene.tell(x, 3, 5, -128, 5, 5, 5, -128, 5);
        Check.is("1 by 4, 1 by 3, 1 by 4", 0, x.nearest());
        Scene.tell(x, 3, -128, 5, 5, 5, 5, -128, 5);
        Check.is("1 by 3, 1 by 3, 1 by 4: 25 is less than 33 hundredths", 11, x.nearest());
        Check.is("near of it", 1, x.near(11));
        Check.is("one without marks", -4, x.near(1));
    }

    /** "a MARK is that of the JUDGE who is on the CHAIR as it is told, or nobody's". */
    private static void nobodysMarks() {
        DiveChairs x = sums();
        x.judge(2, 90);
        dive(x, 0, 0, 5, 6, 7);
        Check.is("they count", 18, x.counts(0));
        Check.is("how many", 3, x.count(3));
        Check.is("they lean nobody", 0, x.lean(0, 0, 1));
        Check.is("near nobody", -4, x.near(0));
        Check.is("nearest nobody", -4, x.nearest());
        Check.is("creep of nobody", FAR_NONE, x.creep(0, 0));
        x.chair(0, 0, 0);
        Check.is("nor of one who comes later", FAR_NONE, x.creep(0, 0));
        Check.is("still nobody", -4, x.nearest());
        Scene.tell(x, 0, 5, 6, 7);
        x.chair(0, 0, -1);
        Check.is("but of one who goes later", 0, x.creep(0, 0));
        Check.is("near of it", 1, x.near(0));
        Check.is("nearest", 0, x.nearest());
        Check.is("marked by nobody", 0, x.markAll(0));
        Check.is("no marks", -4, x.nearest());
    }

    private static boolean isSeen(int part, int chair, int splash) {
        return (part + chair) % 3 != 0 && (part != 5 || splash < 5);
    }

    private static void seeingOfAll() {
        DiveChairs x = new DiveChairs();
        for (int splash = 0; splash < 10; splash++) {
            for (int n = 0; n <= 7; n++) {
                int most = -1;
                int least = 0;
                for (int set = 0; set < 128; set++) {
                    int parts = 0;
                    for (int part = 0; part < 6; part++) {
                        boolean some = false;
                        for (int chair = 0; chair < 7; chair++) {
                            some |= (set >> chair & 1) != 0 && isSeen(part, chair, splash);
                        }
                        parts += some ? 1 : 0;
                    }
                    if (Integer.bitCount(set) == n && parts > most) {
                        most = parts;
                        least = set;
                    }
                }
                Check.is("parts for " + n + " under " + splash, most, x.seeing(n, splash, 0));
                Check.is("the least set for " + n + " under " + splash, least, x.seeing(n, splash, 1));
            }
        }
    }

    private static int flawsOf(int z) {
        return (int) ((z & 0x7fffffffL) / 65536 % 64);
    }

    /** One dive each; the one that is marked better by chairs that see little need not be worth more. */
    private static int rightFrom(int seed, int n) {
        int z = seed;
        int right = 0;
        for (int world = 0; world < n; world++) {
            int first = z * 1103515245 + 12345;
            z = first * 1103515245 + 12345;
            int[] flaws = {flawsOf(first), flawsOf(z)};
            // From chair 0 parts 1, 2, 4, 5 are seen; part 5 not under the splash of the second dive.
            int own = 20 - 2 * Integer.bitCount(flaws[0] & 54);
            int other = 20 - 2 * Integer.bitCount(flaws[1] & 22);
            int worth = 20 - 2 * Integer.bitCount(flaws[0]);
            int otherWorth = 20 - 2 * Integer.bitCount(flaws[1]);
            boolean ownWon = own >= other;
            if (ownWon ? worth * 11 >= otherWorth * 10 : otherWorth * 10 >= worth * 11) {
                right++;
            }
        }
        return right;
    }

    /** "z becomes z times 1103515245 plus 12345 (an int): (z without its sign's bit over 65536, cut) modulo 64". */
    private static void worldsFromSeeds() {
        int[] seeds = {Integer.MIN_VALUE, Integer.MIN_VALUE + 1, -65536, -1, 0, 1, 65535, 65536, Integer.MAX_VALUE};
        for (int seed : seeds) {
            DiveChairs x = sums();
            x.judge(0, 0);
            x.chair(5, 0, 0);
            x.dive(5, 0, 0, 1140);
            x.dive(4, 2, 63, 4000);
            x.dive(5, 1, 63, 1050);
            Check.is("one world from " + seed, rightFrom(seed, 1), x.worlds(5, 1, seed));
            Check.is("two worlds from " + seed, rightFrom(seed, 2), x.worlds(5, 2, seed));
            Check.is("thirty worlds from " + seed, rightFrom(seed, 30), x.worlds(5, 30, seed));
            Check.is("again", rightFrom(seed, 30), x.worlds(5, 30, seed));
            Check.is("flaws stay", 63, x.of(2, 2));
            Check.is("marks stay missing", 0, x.count(3));
        }
    }

    /** "a DIVER whose sum of WORTH times HARD is greatest": one of several is right as well. */
    private static void worldsWithTies() {
        DiveChairs x = sums();
        rule(x, "o0 0;o1 0;o2 0;o3 0;o4 0;o5 0;");
        x.dive(0, 2, 0, 2000);
        x.dive(0, 1, 0, 1000);
        x.dive(0, 1, 0, 1000);
        Check.is("nobody marks: diver 1 won, 20 times 10 twice is as much as 20 times 20", 30, x.worlds(0, 30, 3));
        x.dive(0, 2, 0, 1000);
        Check.is("now diver 2 has more", 0, x.worlds(0, 30, 3));
        x.judge(0, 0);
        x.chair(0, 0, 0);
        Check.is("two marks of 20 each: diver 1 won", 0, x.worlds(0, 30, 3));
        rule(x, "fs*h;");
        Check.is("by hard diver 2 won", 30, x.worlds(0, 30, 3));
    }

    private static void imageTwice() {
        DiveChairs x = sums();
        Check.is("none", -3, x.restore());
        Check.is("of no dives", 0, x.image());
        x.dive(0, 0, 1, 1000);
        Check.is("of one", 1, x.image());
        x.dive(0, 0, 2, 1000);
        Check.is("the later one goes over the first", 1, x.restore());
        Check.is("flaws", 1, x.of(0, 2));
        Check.is("restored twice", 1, x.restore());
        Check.is("an image of what was restored", 1, x.image());
        Check.is("room as it was then", 1, x.dive(0, 0, 3, 1000));
        Check.is("restored", 1, x.restore());
        Check.is("gone", -1, x.of(1, 2));
        Check.is("the rule is in it", 0, x.count(12));
    }
}
