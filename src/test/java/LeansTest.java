/** Promises 20 to 29: leans, pairs, orders, creep, the nearest, what chairs see, worlds. */
public final class LeansTest {
    public static void main(String[] args) {
        leans();
        pairs();
        pairOdds();
        pairsOfThree();
        order();
        orderOdds();
        creep();
        near();
        nearest();
        seeing();
        worldsByChance();
        worldsOfMarks();
        worldsOfNames();
        Check.finish();
    }

    private static DiveChairs threeJudges() {
        DiveChairs x = new DiveChairs();
        x.diver(0, 0);
        x.diver(1, 0);
        for (int judge = 0; judge < 3; judge++) {
            x.judge(0, 100 * judge);
            x.chair(0, judge, judge);
        }
        return x;
    }

    private static void dive(DiveChairs x, int hall, int diver, int... marks) {
        int dive = x.dive(hall, diver, 0, 1000);
        Scene.tell(x, dive, marks);
    }

    private static void leanIs(DiveChairs x, int judge, int land, int... due) {
        for (int what = 0; what < 4; what++) {
            Check.is("lean of " + judge + " to " + land + ", " + what, due[what], x.lean(judge, land, what));
        }
    }

    private static void leans() {
        DiveChairs x = threeJudges();
        dive(x, 0, 1, 10, 4, 7);
        dive(x, 0, 1, 5, 9, 1);
        leanIs(x, 0, 1, 3, 2, 0, 3);
        leanIs(x, 1, 1, 1, 2, -3, 4);
        leanIs(x, 2, 1, -4, 2, -4, 0);
        leanIs(x, 0, 0, 0, 0, -1000000004, -1000000004);
        dive(x, 0, 0, 3, 3, -128, 9);
        leanIs(x, 0, 0, 0, 1, 0, 0);
        leanIs(x, 2, 0, 0, 0, -1000000004, -1000000004);
        dive(x, 0, 0, 1, 2, -128, 20, 20);
        leanIs(x, 0, 0, -19, 2, -19, 0);
        Check.is("judge below", -1000000001, x.lean(-1, 0, 0));
        Check.is("judge not made", -1000000001, x.lean(3, 0, 0));
        Check.is("land below", -1000000001, x.lean(0, -1, 0));
        Check.is("land above", -1000000001, x.lean(0, 6, 0));
        Check.is("what below", -1000000001, x.lean(0, 0, -1));
        Check.is("what above", -1000000001, x.lean(0, 0, 4));
        x.chair(0, 0, -1);
        x.chair(0, 1, -1);
        x.chair(0, 0, 1);
        leanIs(x, 0, 1, 3, 2, 0, 3);
    }

    /** Judge 0 of land 0 in hall 0, judge 1 of land 1 in hall 1, each high for the other's land. */
    private static DiveChairs pair() {
        DiveChairs x = new DiveChairs();
        x.diver(0, 0);
        x.diver(1, 0);
        x.judge(0, 0);
        x.judge(0, 100);
        x.chair(0, 0, 0);
        x.chair(1, 0, 1);
        dive(x, 0, 1, 20, 5, 5);
        dive(x, 1, 0, 6, 5, 5);
        return x;
    }

    private static void pairs() {
        DiveChairs x = pair();
        Check.is("a pair", 1, x.pairs());
        x.chair(0, 6, 1);
        Check.is("together in a hall", 0, x.pairs());
        x.chair(0, 6, -1);
        Check.is("apart again", 1, x.pairs());
        x.chair(0, 0, -1);
        Check.is("one on no chair", 1, x.pairs());
        x.chair(1, 0, -1);
        Check.is("both on none", 1, x.pairs());
        x.chair(5, 1, 0);
        x.chair(5, 2, 1);
        Check.is("together in another hall", 0, x.pairs());
        x.chair(5, 2, -1);
        x.chair(1, 0, 1);
        Check.is("told anew", 3, Scene.tell(x, 1, 5, 5, 5));
        Check.is("a sum of 0 is no lean", 0, x.pairs());
        Check.is("told anew", 3, Scene.tell(x, 1, 4, 5, 5));
        Check.is("nor is one below", 0, x.pairs());
        lateJudges();
        oneLand();
    }

    private static void lateJudges() {
        DiveChairs x = new DiveChairs();
        x.diver(4, 0);
        x.diver(5, 0);
        for (int judge = 0; judge < 12; judge++) {
            x.judge(0, judge == 11 ? 400 : judge == 10 ? 500 : 0);
        }
        x.chair(2, 0, 11);
        x.chair(3, 0, 10);
        dive(x, 2, 1, 20, 5, 5);
        dive(x, 3, 0, 20, 5, 5);
        Check.is("the last two of twelve", 1, x.pairs());
        Check.is("asked again", 1, x.pairs());
        Check.is("told anew", 3, Scene.tell(x, 0, 5, 5, 5));
        Check.is("leans no more", 0, x.pairs());
    }

    private static void oneLand() {
        DiveChairs x = new DiveChairs();
        x.diver(0, 0);
        x.judge(0, 0);
        x.judge(0, 0);
        x.chair(0, 0, 0);
        x.chair(1, 0, 1);
        dive(x, 0, 0, 20, 5, 5);
        dive(x, 1, 0, 20, 5, 5);
        Check.is("of one land", 0, x.pairs());
        Check.is("all ways as good", 2, x.pairOdds(0));
    }

    private static void pairOdds() {
        DiveChairs x = pair();
        Check.is("one way of two", 1, x.pairOdds(0));
        Check.is("two ways", 2, x.pairOdds(1));
        x.judge(0, 0);
        Check.is("two of land 0 told apart", 2, x.pairOdds(0));
        Check.is("six ways", 6, x.pairOdds(1));
        Check.is("lands are as they were", 1, x.pairs());
        x.chair(0, 6, 1);
        Check.is("without pairs all ways", 6, x.pairOdds(0));
        x.chair(0, 6, -1);
        for (int judge = 3; judge < 7; judge++) {
            x.judge(0, 200);
        }
        Check.is("seven", 5040, x.pairOdds(1));
        Check.is("lands 0, 1 for two, 0 twice", 2 * 120, x.pairOdds(0));
        Check.is("what below", -1, x.pairOdds(-1));
        Check.is("what above", -1, x.pairOdds(2));
        x.judge(0, 0);
        Check.is("eight", -3, x.pairOdds(0));
        Check.is("eight, of how many", -3, x.pairOdds(1));
        Check.is("not as told goes ahead", -1, x.pairOdds(2));
        Check.is("pairs of eight", 1, x.pairs());
    }

    private static void pairsOfThree() {
        DiveChairs x = new DiveChairs();
        for (int land = 0; land < 3; land++) {
            x.diver(land, 0);
            x.judge(0, 100 * land);
            x.chair(land, 0, land);
        }
        for (int judge = 0; judge < 3; judge++) {
            for (int land = 0; land < 3; land++) {
                dive(x, judge, land, judge == 2 && land == 1 ? 2 : 9, 5, 5);
            }
        }
        Check.is("0 with 1 and 2", 2, x.pairs());
        // Judge 2 does not lean to land 1: one pair fails, unless it is of land 1 itself.
        Check.is("of all ways", 6, x.pairOdds(0));
        Check.is("three if judge 2 is of land 1", 3, threeIfDealt());
    }

    private static int threeIfDealt() {
        DiveChairs x = new DiveChairs();
        int[] lands = {0, 2, 1};
        for (int land = 0; land < 3; land++) {
            x.diver(land, 0);
            x.judge(0, 100 * lands[land]);
            x.chair(land, 0, land);
        }
        for (int judge = 0; judge < 3; judge++) {
            for (int land = 0; land < 3; land++) {
                dive(x, judge, land, judge == 2 && land == 1 ? 2 : 9, 5, 5);
            }
        }
        Check.is("three in two ways of six", 2, x.pairOdds(0));
        return x.pairs();
    }

    private static DiveChairs rows(int... counts) {
        DiveChairs x = new DiveChairs();
        x.diver(0, 0);
        Check.is("rule", 2, Scene.rule(x, "d0 0;fs;"));
        for (int count : counts) {
            dive(x, 4, 0, count);
            dive(x, 3, 0, 20 - count);
        }
        return x;
    }

    private static void order() {
        Check.is("two more, three less", -1, rows(5, 9, 9, 3).order(4));
        Check.is("rising", 10, rows(1, 2, 3, 4, 5).order(4));
        Check.is("falling", -10, rows(1, 2, 3, 4, 5).order(3));
        Check.is("alike", 0, rows(7, 7, 7).order(4));
        DiveChairs x = rows(1, 2, 3, 4, 5, 6, 7, 8, 9);
        Check.is("nine dives", 36, x.order(4));
        Check.is("none", 0, x.order(0));
        Check.is("hall below", -1000000001, x.order(-1));
        Check.is("hall above", -1000000001, x.order(6));
    }

    private static void orderOdds() {
        DiveChairs x = rows(5, 9, 9, 3);
        Check.is("as much or more", 18, x.orderOdds(4, 0));
        Check.is("of 24", 24, x.orderOdds(4, 1));
        Check.is("best", 1, rows(1, 2, 3, 4, 5, 6, 7).orderOdds(4, 0));
        Check.is("worst", 5040, rows(1, 2, 3, 4, 5, 6, 7).orderOdds(3, 0));
        Check.is("of all", 5040, rows(1, 2, 3, 4, 5, 6, 7).orderOdds(3, 1));
        Check.is("alike ones told apart", 2, rows(7, 7, 8).orderOdds(4, 0));
        Check.is("one", 1, rows(7).orderOdds(4, 0));
        Check.is("none", 1, x.orderOdds(0, 0));
        Check.is("of none", 1, x.orderOdds(0, 1));
        DiveChairs eight = rows(1, 2, 3, 4, 5, 6, 7, 8);
        Check.is("eight", -3, eight.orderOdds(4, 0));
        Check.is("eight, of how many", -3, eight.orderOdds(4, 1));
        Check.is("not as told goes ahead", -1, eight.orderOdds(4, 2));
        Check.is("what below", -1, x.orderOdds(4, -1));
        Check.is("hall below", -1, x.orderOdds(-1, 0));
        Check.is("hall above", -1, x.orderOdds(6, 0));
    }

    private static void creep() {
        DiveChairs x = threeJudges();
        x.chair(1, 5, 0);
        x.chair(1, 6, 1);
        x.year(1, 3);
        dive(x, 0, 0, 10, 5, 4);
        dive(x, 0, 0, 11);
        dive(x, 0, 1, 11);
        dive(x, 1, 1, 20, -128, -128, -128, -128, 7, 8);
        dive(x, 1, 1, 20, -128, -128, -128, -128, -128, 9);
        Check.is("700 less 1066, 850 less 500", -16, x.creep(0, 3));
        Check.is("the other way", 16, x.creep(3, 0));
        Check.is("from a year to itself", 0, x.creep(0, 0));
        Check.is("nobody", -1000000004, x.creep(0, 1));
        Check.is("nobody in either", -1000000004, x.creep(40, 1));
        Check.is("first below", -1000000001, x.creep(-1, 0));
        Check.is("first above", -1000000001, x.creep(41, 0));
        Check.is("second below", -1000000001, x.creep(0, -1));
        Check.is("second above", -1000000001, x.creep(0, 41));
        dive(x, 2, 1, 0, 1);
        dive(x, 3, 1, 1, 0);
        x.chair(2, 0, 2);
        x.chair(3, 1, 2);
        x.year(2, 20);
        x.year(3, 21);
        Check.is("told", 2, Scene.tell(x, 5, 0, 1));
        Check.is("told", 2, Scene.tell(x, 6, 20, 3));
        Check.is("marks of 0 are marks", 300, x.creep(20, 21));
        Check.is("marks of 0 are marks", -300, x.creep(21, 20));
        x.year(1, 40);
        Check.is("no more", -1000000004, x.creep(0, 3));
        Check.is("years as they are now", -16, x.creep(0, 40));
        x.chair(1, 5, -1);
        Check.is("whoever gave them", -16, x.creep(0, 40));
    }

    private static void near() {
        DiveChairs x = threeJudges();
        Check.is("no marks", -4, x.near(0));
        dive(x, 0, 1, 10, 4, 7);
        dive(x, 0, 0, 5, 9, 1);
        Check.is("3 and 0", 3, x.near(0));
        Check.is("3 and 4", 7, x.near(1));
        Check.is("0 and 4", 4, x.near(2));
        Check.is("judge below", -1, x.near(-1));
        Check.is("judge not made", -1, x.near(3));
    }

    private static void nearest() {
        DiveChairs x = threeJudges();
        Check.is("no marks", -4, x.nearest());
        dive(x, 0, 0, -128, 6, 5, 5);
        Check.is("those without marks are not near", 2, x.nearest());
        dive(x, 0, 0, 5, 5, 4, 6);
        Check.is("0 by 1", 0, x.nearest());
        Check.is("told anew", 4, Scene.tell(x, 1, 6, 5, 5, 5));
        Check.is("1 by 1, 1 by 2, 0 by 2", 2, x.nearest());
        dive(x, 0, 0, 5, 5, 7, 5);
        dive(x, 0, 0, 5, 7, 5, 5);
        Check.is("1 by 3, 3 by 4, 2 by 4", 0, x.nearest());
        dive(x, 0, 0, 6, -128, 5, 5);
        dive(x, 0, 0, 5, -128, 5, 5);
        Check.is("2 by 5, 3 by 4, 2 by 6", 2, x.nearest());
        Check.is("told anew", 2, Scene.tell(x, 5, -128, -128, 5, 5));
        Check.is("2 by 4, 3 by 4, 2 by 6", 2, x.nearest());
        Check.is("told anew", 2, Scene.tell(x, 4, -128, -128, 5, 5));
        Check.is("1 by 3, 3 by 4, 2 by 6: the least", 0, x.nearest());
    }

    private static void seeingIs(DiveChairs x, int n, int splash, int many, int set) {
        Check.is("parts for " + n + " under " + splash, many, x.seeing(n, splash, 0));
        Check.is("chairs for " + n + " under " + splash, set, x.seeing(n, splash, 1));
    }

    private static void seeing() {
        DiveChairs x = new DiveChairs();
        seeingIs(x, 0, 0, 0, 0);
        seeingIs(x, 0, 9, 0, 0);
        seeingIs(x, 1, 0, 4, 1);
        seeingIs(x, 1, 4, 4, 1);
        seeingIs(x, 1, 5, 4, 2);
        seeingIs(x, 1, 9, 4, 2);
        seeingIs(x, 2, 0, 6, 3);
        seeingIs(x, 2, 5, 5, 3);
        seeingIs(x, 3, 0, 6, 7);
        seeingIs(x, 6, 0, 6, 63);
        seeingIs(x, 7, 9, 5, 127);
        for (int what = 0; what < 2; what++) {
            Check.is("n below", -1, x.seeing(-1, 0, what));
            Check.is("n above", -1, x.seeing(8, 0, what));
        }
        Check.is("splash below", -1, x.seeing(1, -1, 0));
        Check.is("splash above", -1, x.seeing(1, 10, 0));
        Check.is("what below", -1, x.seeing(1, 0, -1));
        Check.is("what above", -1, x.seeing(1, 0, 2));
    }

    private static long next(long z) {
        return Math.floorMod(z * 1103515245L + 12345L, 1L << 32);
    }

    private static int worthOf(long z) {
        return 20 - 2 * Long.bitCount((z & 0x7fffffffL) / 65536 % 64);
    }

    /** Diver 0 always wins, as nothing counts: right is what chance makes of its worth. */
    private static int rightByChance(int n, int seed, int hard, int otherHard) {
        long z = seed & 0xffffffffL;
        int right = 0;
        for (int world = 0; world < n; world++) {
            long first = next(z);
            long second = next(first);
            z = next(second);
            int own = worthOf(first) * hard + worthOf(z) * 10;
            if (own >= worthOf(second) * otherHard) {
                right++;
            }
        }
        return right;
    }

    private static void worldsByChance() {
        DiveChairs x = new DiveChairs();
        x.diver(0, 0);
        x.diver(1, 0);
        Check.is("rule", 1, Scene.rule(x, "f0;"));
        x.dive(1, 1, 9, 4000);
        x.dive(0, 0, 3, 1700);
        x.dive(0, 1, 5, 2700);
        x.dive(0, 0, 7, 1000);
        int[] seeds = {0, 1, -1, 7, 12345, Integer.MIN_VALUE, Integer.MAX_VALUE, 987654321, -55555};
        for (int seed : seeds) {
            for (int n = 1; n <= 30; n++) {
                Check.is("worlds " + n + " from " + seed, rightByChance(n, seed, 17, 27), x.worlds(0, n, seed));
            }
        }
        Check.is("alone it is right", 30, x.worlds(1, 30, 5));
        Check.is("flaws only in mind", 5, x.of(2, 2));
        Check.is("marks only in mind", 0, x.count(3));
        Check.is("nobody there", -4, x.worlds(2, 1, 1));
        Check.is("hall below", -1, x.worlds(-1, 1, 1));
        Check.is("hall above", -1, x.worlds(6, 1, 1));
        Check.is("n below", -1, x.worlds(0, 0, 1));
        Check.is("n above", -1, x.worlds(0, 31, 1));
    }

    /** A drawn judge adds 4 for the name of diver 1, and 1 behind a dive worth 15 or more. */
    private static void worldsOfNames() {
        DiveChairs x = new DiveChairs();
        x.diver(0, 0);
        x.diver(0, 8);
        x.judge(4, 0);
        x.chair(0, 2, 0);
        Check.is("rule", 2, Scene.rule(x, "d0 0;fs;"));
        x.dive(0, 0, 0, 1000);
        x.dive(0, 1, 0, 1090);
        long z = 4711;
        int right = 0;
        for (int world = 0; world < 30; world++) {
            long first = next(z);
            z = next(first);
            int own = 20 - 2 * Long.bitCount((first & 0x7fffffffL) / 65536 % 64 & 45);
            int other = 20 - 2 * Long.bitCount((z & 0x7fffffffL) / 65536 % 64 & 13) + 4;
            if (worthOf(first) >= 15) {
                other++;
            }
            int ahead = worthOf(first) - worthOf(z);
            if (Math.min(20, other) > own ? ahead <= 0 : ahead >= 0) {
                right++;
            }
        }
        Check.is("by the drawn judge", right, x.worlds(0, 30, 4711));
    }

    /** A machine that sees but parts 0 to 2 judges; chairs without judges leave no marks of before. */
    private static void worldsOfMarks() {
        DiveChairs x = new DiveChairs();
        x.diver(0, 0);
        x.diver(1, 0);
        x.judge(7, 0);
        x.chair(0, 0, 0);
        Check.is("rule", 3, Scene.rule(x, "d0 0;fs*h;o3 0;"));
        x.dive(0, 0, 0, 1000);
        x.dive(0, 1, 0, 1000);
        Check.is("told", 7, Scene.tell(x, 1, 20, 20, 20, 20, 20, 20, 20));
        long z = 99;
        int right = 0;
        for (int world = 0; world < 30; world++) {
            long first = next(z);
            z = next(first);
            int[] flaws = {(int) (first / 65536 % 64), (int) (z / 65536 % 64)};
            int[] marks = {20 - 2 * Integer.bitCount(flaws[0] & 7), 20 - 2 * Integer.bitCount(flaws[1] & 7)};
            int[] worths = {20 - 2 * Integer.bitCount(flaws[0] & 55), 20 - 2 * Integer.bitCount(flaws[1] & 55)};
            int winner = marks[1] > marks[0] ? 1 : 0;
            if (worths[winner] >= worths[1 - winner]) {
                right++;
            }
        }
        Check.is("by the machine", right, x.worlds(0, 30, 99));
        Check.is("marks stay", 20, x.mark(1, 6));
    }
}
