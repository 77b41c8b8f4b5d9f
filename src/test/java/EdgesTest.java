/**
 * The edges that the document's terms name, sentence by sentence: too small, too large, empty, full, wrapped around,
 * and the last of all that there can be. What is refused stands in RangesTest and RefusedTest.
 */
public final class EdgesTest {
    public static void main(String[] args) {
        atFirst();
        lastOfAll();
        lastDiver();
        fortyDivesOfOneHall();
        worth();
        heldAtTheEnd();
        leansWouldMark();
        drawn();
        drawnInEachHall();
        middling();
        machine();
        weights();
        failures();
        lowestBits();
        Check.finish();
    }

    /** An object with a diver of land 0 and name 0, and a dive of his in hall 0 with all flaws, hard 10. */
    private static DiveChairs oneDive() {
        DiveChairs x = new DiveChairs();
        x.diver(0, 0);
        x.dive(0, 0, 63, 1000);
        return x;
    }

    private static void rule(DiveChairs x, int statements, String text) {
        Check.is("rule " + text, statements, Scene.rule(x, text));
    }

    /** "0 at first", "nobody (at first)", "nothing (at first)", "2 at first for all", "MISSING ones (all at first)". */
    private static void atFirst() {
        DiveChairs x = new DiveChairs();
        for (int hall = 0; hall < 6; hall++) {
            Check.is("a year is 0 at first", 0, x.year(hall, 40));
            Check.is("a year may be 40", 40, x.year(hall, 0));
            for (int chair = 0; chair < 7; chair++) {
                Check.is("nobody at first", -4, x.chair(hall, chair, -1));
            }
        }
        for (int d = 0; d < 8; d++) {
            Check.is("no judge at first", -11, x.toss(d));
            Check.is("no row at first", -11, x.put(d, 0, 0));
        }
        x.diver(0, 0);
        for (int dive = 0; dive < 40; dive++) {
            x.dive(dive % 6, 0, 0, 1000);
            Check.is("no marks at first", 0, x.of(dive, 6));
            Check.is("missing on the first chair", -4, x.mark(dive, 0));
            Check.is("missing on the last chair", -4, x.mark(dive, 6));
            Check.is("counts nothing at first", 0, x.counts(dive));
        }
        Check.is("no sum at first", 0, x.count(4));
    }

    /** The last hall, chair, judge, land, dive there can be. */
    private static void lastOfAll() {
        DiveChairs x = full();
        Check.is("judge 11 on chair 6 of hall 5", -4, x.chair(5, 6, 11));
        Check.is("not on another one there", -3, x.chair(5, 0, 11));
        Check.is("nor is another one's", -4, x.chair(5, 0, 10));
        Check.is("who was", 11, x.chair(5, 6, 11));
        Check.is("on chairs", 2, x.count(5));
        Check.is("would mark dive 39", 20, x.would(39, 6));
        Check.is("marks dive 39", 2, x.markAll(39));
        Check.is("told", 7, Scene.tell(x, 39, 7, 6, 5, 4, 3, 2, 20));
        Check.is("mark", 20, x.mark(39, 6));
        Check.is("marks", 7, x.of(39, 6));
        Check.is("lean of judge 11 to land 5", 15, x.lean(11, 5, 0));
        Check.is("lean of judge 11 to land 5, how many", 1, x.lean(11, 5, 1));
        Check.is("lean of judge 11 to land 5, least", 15, x.lean(11, 5, 2));
        Check.is("lean of judge 11 to land 5, greatest", 15, x.lean(11, 5, 3));
        Check.is("near of judge 11", 15, x.near(11));
        Check.is("nearest of the two last", 10, x.nearest());
        Check.is("creep in hall 5", 0, x.creep(0, 0));
        Check.is("counts without 20 and 2", 25, x.counts(39));
        Check.is("total in hall 5", 25, x.total(5, 7));
        Check.is("place in hall 5", 1, x.place(5, 7));
        Check.is("won in hall 5", 7, x.won(5));
        Check.is("won in hall 5 without chair 6", 7, x.wonIf(5, 0, 6));
        Check.is("moved in hall 5", 1, x.moved(5, 7, 3, 0));
        Check.is("order in hall 5", 0, x.order(5));
        Check.is("worlds in hall 5", 30, x.worlds(5, 30, 5));
        Check.is("shelf 7", 0, x.keep(7, 1, 11));
        Check.is("weighs", 15, x.weight(7));
        Check.is("fails", 11, x.toss(7));
        Check.is("the image of all", 40, x.image());
        lastOfAnImage(x);
    }

    /** Eight divers, twelve judges, forty dives; only dive 39, of diver 7 and land 5, is in hall 5. */
    private static DiveChairs full() {
        DiveChairs x = new DiveChairs();
        for (int n = 0; n < 8; n++) {
            Check.is("diver", n, x.diver(n == 7 ? 5 : 0, n));
        }
        for (int n = 0; n < 12; n++) {
            Check.is("judge", n, x.judge(0, n == 11 ? 500 : 0));
        }
        for (int n = 0; n < 40; n++) {
            Check.is("dive", n, x.dive(n == 39 ? 5 : n % 5, n % 8, 0, 1000));
        }
        return x;
    }

    private static void lastOfAnImage(DiveChairs x) {
        x.year(5, 40);
        x.chair(5, 6, -1);
        x.chair(4, 6, 11);
        Scene.tell(x, 39);
        Check.is("restored", 40, x.restore());
        Check.is("year of hall 5", 0, x.year(5, 0));
        Check.is("chair 6 of hall 4", -4, x.chair(4, 6, -1));
        Check.is("chair 6 of hall 5", 11, x.chair(5, 6, 11));
        Check.is("mark from chair 6", 20, x.mark(39, 6));
        Check.is("of judge 11", 1, x.lean(11, 5, 1));
        x.keep(0, 1, 11);
        Check.is("judge 11", 15, x.weight(0));
        Check.is("no room for divers", -2, x.diver(0, 0));
        Check.is("no room for judges", -2, x.judge(0, 0));
        Check.is("no room for dives", -2, x.dive(0, 0, 0, 1000));
        lastOfAnEmptyImage();
    }

    /** What an image does not hold is gone behind it, the last of all too, and comes anew as it is told then. */
    private static void lastOfAnEmptyImage() {
        DiveChairs x = new DiveChairs();
        x.image();
        x.judge(0, 0);
        for (int n = 0; n < 8; n++) {
            x.diver(5, 9);
        }
        x.chair(5, 6, 0);
        x.dive(5, 7, 63, 4090);
        x.markAll(-1);
        Check.is("restored", 0, x.restore());
        Check.is("no dives", -1, x.of(0, 0));
        Check.is("no judges", -1, x.near(0));
        Check.is("no divers", -1, x.place(5, 0));
        Check.is("no marks", 0, x.count(3));
        Check.is("nobody on chairs", 0, x.count(5));
        Check.is("nobody on chair 6 of hall 5", -4, x.chair(5, 6, -1));
        for (int n = 0; n < 8; n++) {
            Check.is("diver anew", n, x.diver(0, 0));
        }
        Check.is("dive anew", 0, x.dive(5, 7, 0, 1000));
        Check.is("without marks", 0, x.of(0, 6));
        Check.is("judge anew", 0, x.judge(4, 0));
        x.chair(5, 6, 0);
        Check.is("of the diver's new name", 20, x.would(0, 6));
        Check.is("marked anew", 1, x.markAll(0));
        Check.is("of the diver's new land", 1, x.lean(0, 0, 1));
    }

    /** Eight divers in one hall: the last one is behind, ahead of, and alike to all others. */
    private static void lastDiver() {
        DiveChairs x = new DiveChairs();
        rule(x, 2, "d0 0;fs;");
        for (int n = 0; n < 8; n++) {
            x.diver(0, 0);
            x.dive(0, n, 0, 1000);
            Scene.tell(x, n, 10 - n);
        }
        Check.is("the eighth place", 8, x.place(0, 7));
        Check.is("the first place", 1, x.place(0, 0));
        Check.is("total of the last", 3, x.total(0, 7));
        Check.is("moved to the first place", 1, x.moved(0, 7, 1, 0));
        Check.is("told", 1, Scene.tell(x, 7, 20));
        Check.is("the last one is first", 1, x.place(0, 7));
        Check.is("all others are behind", 8, x.place(0, 6));
        Check.is("the last one won", 7, x.won(0));
        Check.is("the last one won if", 7, x.wonIf(0, 1, 0));
        Check.is("told", 1, Scene.tell(x, 7, 10));
        Check.is("as good as the first one", 1, x.place(0, 7));
        Check.is("who is the least", 0, x.won(0));
        Check.is("the second one is behind both", 3, x.place(0, 1));
    }

    private static void fortyDivesOfOneHall() {
        DiveChairs x = new DiveChairs();
        x.diver(0, 0);
        rule(x, 2, "d0 0;f512*512*128*64-s;");
        for (int n = 0; n < 40; n++) {
            x.dive(2, 0, 0, 1000);
            Check.is("told", 1, Scene.tell(x, n, n / 2));
        }
        Check.is("wrapped around", Integer.MAX_VALUE - 18, x.counts(39));
        Check.is("not wrapped around", Integer.MIN_VALUE, x.counts(0));
        long total = 2L * Integer.MIN_VALUE;
        for (int n = 2; n < 40; n++) {
            total += Integer.MAX_VALUE - n / 2 + 1;
        }
        Check.is("their total is 64 bits wide", total, x.total(2, 0));
        // Two dives count the least int, 38 fall by one every second dive: all 780 pairs but 20 alike ones.
        Check.is("order of forty", 76 - 684, x.order(2));
        Check.is("odds of forty", -3, x.orderOdds(2, 1));
    }

    /** "WORTH of a DIVE: 20 less what is OFF for all its FLAWS, 0 at least." */
    private static void worth() {
        DiveChairs x = oneDive();
        rule(x, 6, "o0 0;o1 0;o2 0;o3 0;o4 0;o5 0;");
        Check.is("nothing is off", 20, x.of(0, 5));
        rule(x, 1, "o5 19;");
        Check.is("19 is off, for part 5 under any splash", 1, x.of(0, 5));
        rule(x, 1, "o5 20;");
        Check.is("20 is off", 0, x.of(0, 5));
        rule(x, 1, "o0 1;");
        Check.is("21 is off", 0, x.of(0, 5));
        rule(x, 4, "o0 20;o1 20;o2 20;o3 20;");
        Check.is("100 is off", 0, x.of(0, 5));
        x.dive(0, 0, 0, 1000);
        Check.is("no flaws", 20, x.of(1, 5));
        x.dive(0, 0, 16, 1000);
        Check.is("nothing is off for its one flaw", 20, x.of(2, 5));
    }

    private static int wouldOf(DiveChairs x, int kind, int told) {
        x.image();
        int judge = x.judge(kind, told);
        x.chair(0, 0, judge);
        int mark = x.would(0, 0);
        x.restore();
        return mark;
    }

    /** "halves 0 .. 20 (held so at the end)": chair 0 sees parts 1, 2, 4, 5; only part 1 has something off here. */
    private static void heldAtTheEnd() {
        DiveChairs x = oneDive();
        rule(x, 6, "o0 0;o1 9;o2 0;o3 0;o4 0;o5 0;");
        Check.is("JUDGE 11", 11, wouldOf(x, 0, 0));
        Check.is("11 and 8 are 19", 19, wouldOf(x, 2, 80));
        Check.is("11 and 9 are 20", 20, wouldOf(x, 2, 90));
        rule(x, 1, "o1 8;");
        Check.is("12 and 9 are 21, held at 20", 20, wouldOf(x, 2, 90));
        rule(x, 1, "o1 0;");
        Check.is("20 and 1 are 21, held at 20", 20, wouldOf(x, 2, 10));
        Check.is("20 and 9 are 29, held at 20", 20, wouldOf(x, 2, 90));
        Check.is("20 is even", 20, wouldOf(x, 1, 0));
        rule(x, 1, "o1 1;");
        Check.is("STEADY 19 is 18", 18, wouldOf(x, 1, 0));
        rule(x, 1, "o1 19;");
        Check.is("JUDGE 1", 1, wouldOf(x, 0, 0));
        Check.is("STEADY 1 is 0", 0, wouldOf(x, 1, 0));
        rule(x, 1, "o1 20;");
        Check.is("JUDGE 0", 0, wouldOf(x, 0, 0));
        Check.is("STEADY 0 stays", 0, wouldOf(x, 1, 0));
        Check.is("0 and 9", 9, wouldOf(x, 2, 90));
        rule(x, 1, "o2 1;");
        Check.is("JUDGE -1 is held at 0", 0, wouldOf(x, 0, 0));
        Check.is("STEADY -1 is held at 0", 0, wouldOf(x, 1, 0));
        Check.is("BLIND -1 is held at 0", 0, wouldOf(x, 6, 90));
        Check.is("OWN: -1 and 9", 8, wouldOf(x, 2, 90));
        Check.is("OWN: -1 and 1", 0, wouldOf(x, 2, 10));
        Check.is("OWN: -1 and 0 is held at 0", 0, wouldOf(x, 2, 0));
        Check.is("SWAPPING: -1 and 9", 8, wouldOf(x, 3, 190));
        rule(x, 1, "o2 20;");
        Check.is("OWN: -20 and 9 is held at 0", 0, wouldOf(x, 2, 90));
        Check.is("MIDDLING alone is held at 0", 0, wouldOf(x, 5, 0));
    }

    /** "LEAN if the DIVER is of its LAND", "of the PARTNER's LAND (not its own)", "LEAN as it were 0". */
    private static void leansWouldMark() {
        DiveChairs x = oneDive();
        rule(x, 1, "o1 6;");
        Check.is("JUDGE does not lean", 8, wouldOf(x, 0, 90));
        Check.is("OWN of its land", 13, wouldOf(x, 2, 50));
        Check.is("OWN with partner of that land", 8, wouldOf(x, 2, 150));
        Check.is("OWN without lean", 8, wouldOf(x, 2, 0));
        Check.is("SWAPPING of its land", 13, wouldOf(x, 3, 51));
        Check.is("SWAPPING with partner of that land", 13, wouldOf(x, 3, 150));
        Check.is("SWAPPING with itself leans once", 13, wouldOf(x, 3, 50));
        Check.is("SWAPPING for others", 8, wouldOf(x, 3, 151));
        Check.is("SWAPPING without lean", 8, wouldOf(x, 3, 0));
        Check.is("STEADY does not lean", 8, wouldOf(x, 1, 90));
        Check.is("DRAWN does not lean", 8, wouldOf(x, 4, 90));
        Check.is("MIDDLING does not lean", 8, wouldOf(x, 5, 90));
        Check.is("BLIND does not lean", 8, wouldOf(x, 6, 90));
        Check.is("MACHINE does not lean", 10, wouldOf(x, 7, 90));
    }

    /** "the half of NAME (cut), and 1 more if the DIVE ahead in its HALL (if any) has a WORTH of 15 or more". */
    /** Neither a hall's number nor a dive's has to do with how known the only diver is. */
    private static void drawnInEachHall() {
        DiveChairs x = new DiveChairs();
        x.diver(0, 9);
        x.judge(4, 0);
        rule(x, 1, "o0 20;");
        for (int hall = 0; hall < 6; hall++) {
            Check.is("nobody was there", -4, x.chair(hall, 1, 0));
            Check.is("dive", 2 * hall, x.dive(hall, 0, 1, 1000));
            Check.is("dive behind", 2 * hall + 1, x.dive(hall, 0, 1, 1000));
            Check.is("first in hall " + hall, 4, x.would(2 * hall, 1));
            Check.is("worth 0 ahead in hall " + hall, 4, x.would(2 * hall + 1, 1));
        }
    }

    private static void drawn() {
        for (int name = 0; name < 10; name++) {
            DiveChairs x = new DiveChairs();
            x.diver(0, name);
            x.judge(4, 0);
            x.chair(0, 0, 0);
            rule(x, 5, "o0 5;o1 20;o2 0;o4 0;o5 0;");
            x.dive(0, 0, 2, 1000);
            Check.is("no dive ahead, name " + name, name / 2, x.would(0, 0));
            x.dive(1, 0, 0, 1000);
            x.dive(0, 0, 2, 1000);
            Check.is("worth 0 ahead, name " + name, name / 2, x.would(2, 0));
            x.dive(0, 0, 1, 1000);
            x.dive(0, 0, 2, 1000);
            Check.is("worth 15 ahead, name " + name, name / 2 + 1, x.would(4, 0));
            rule(x, 1, "o0 6;");
            Check.is("worth 14 ahead, name " + name, name / 2, x.would(4, 0));
            rule(x, 1, "o0 4;");
            Check.is("worth 16 ahead, name " + name, name / 2 + 1, x.would(4, 0));
            rule(x, 1, "o0 20;");
            x.dive(0, 0, 3, 1000);
            rule(x, 2, "o2 3;o0 0;");
            x.dive(0, 0, 6, 1000);
            Check.is("-3 and what is drawn, held at the end", Math.max(0, name / 2 - 3), x.would(6, 0));
            rule(x, 1, "o1 0;");
            Check.is("held at 20", Math.min(20, 17 + name / 2 + 1), x.would(6, 0));
        }
    }

    /** "the MIDDLE (that at half their number, cut, in order) of what the others who aren't MIDDLING would MARK". */
    private static void middling() {
        DiveChairs x = oneDive();
        x.judge(5, 0);
        x.chair(0, 3, 0);
        Check.is("no others: a JUDGE's", 12, x.would(0, 3));
        x.chair(0, 5, x.judge(5, 90));
        Check.is("only MIDDLING others: a JUDGE's", 12, x.would(0, 5));
        // From each chair four parts are seen: others mark what they lean.
        rule(x, 6, "o0 5;o1 5;o2 5;o3 5;o4 5;o5 5;");
        int[] chairs = {1, 4, 0, 6, 2};
        int[] leans = {9, 2, 7, 4, 5};
        int[] due = {9, 9, 7, 7, 5};
        for (int n = 0; n < 5; n++) {
            x.chair(0, chairs[n], x.judge(2, 10 * leans[n]));
            Check.is("lean alone", leans[n], x.would(0, chairs[n]));
            Check.is("the middle of " + (n + 1), due[n], x.would(0, 3));
            Check.is("for the other MIDDLING one too, of " + (n + 1), due[n], x.would(0, 5));
        }
        x.chair(0, 5, x.judge(2, 80));
        Check.is("the middle of all six others", 7, x.would(0, 3));
        Check.is("not what they have marked", 0, x.of(0, 6));
        Check.is("all seven mark", 7, x.markAll(0));
        Check.is("as it would", 7, x.mark(0, 3));
    }

    /** "20 less what is OFF for FLAWS of PARTS 0, 1, 2, SEEN or not". */
    private static void machine() {
        for (int chair = 0; chair < 7; chair++) {
            DiveChairs x = oneDive();
            x.judge(7, 90);
            x.chair(0, chair, 0);
            rule(x, 6, "o0 1;o1 2;o2 4;o3 20;o4 20;o5 20;");
            Check.is("from chair " + chair, 13, x.would(0, chair));
            rule(x, 1, "o0 14;");
            Check.is("0 from chair " + chair, 0, x.would(0, chair));
            rule(x, 1, "o0 20;");
            Check.is("held at 0 from chair " + chair, 0, x.would(0, chair));
            x.dive(0, 0, 56, 1090);
            Check.is("no flaws of these parts, from chair " + chair, 20, x.would(1, chair));
        }
    }

    private static int weightOf(int kind, int told) {
        DiveChairs x = new DiveChairs();
        x.judge(kind, told);
        x.keep(0, 1, 0);
        return x.weight(0);
    }

    /** WEIGHTS of the least and of the greatest that can be told. */
    private static void weights() {
        int[] least = {10, 12, 10, 10, 20, 5, 10, 17};
        int[] greatest = {15, 17, 24, 29, 30, 10, 10, 17};
        for (int kind = 0; kind < 8; kind++) {
            Check.is("least weight of kind " + kind, least[kind], weightOf(kind, 0));
            Check.is("greatest weight of kind " + kind, greatest[kind], weightOf(kind, 595));
        }
    }

    /** "of SWAPPING ones 100 and PARTNER more; of MACHINES 200 more"; "with LEAN 0, have none". */
    private static void failures() {
        for (int kind = 0; kind < 8; kind++) {
            DiveChairs x = new DiveChairs();
            for (int n = 0; n < 12; n++) {
                x.judge(kind, n == 0 ? 10 : n == 11 ? 595 : n == 5 ? 505 : 90);
            }
            boolean leans = kind == 2 || kind == 3;
            int more = kind == 3 ? 100 : kind == 7 ? 200 : 0;
            x.keep(0, 1, 0);
            x.keep(3, 1, 5);
            x.keep(7, 1, 11);
            Check.is("judge 0 of kind " + kind, kind == 1 ? -15 : more, x.toss(0));
            Check.is("no lean, kind " + kind, kind == 1 || leans ? -15 : 5 + more, x.toss(3));
            Check.is("judge 11 of kind " + kind, kind == 1 ? -15 : 11 + more + (kind == 3 ? 5 : 0), x.toss(7));
            Check.is("a judge stays on its shelf", kind == 1 ? -15 : more, x.toss(0));
        }
    }

    private static void putKeeps(int sort, int v, long due) {
        DiveChairs x = new DiveChairs();
        x.row(0, sort, 120);
        Check.is("put", 0, x.put(0, 119, v));
        Check.is("sort " + sort + " keeps of " + v, due, x.element(0, 119));
        Check.is("ahead of it", 0, x.element(0, 118));
    }

    /** "what is put in keeps its lowest bits". */
    private static void lowestBits() {
        putKeeps(0, 127, 127);
        putKeeps(0, 128, -128);
        putKeeps(0, 255, -1);
        putKeeps(0, 256, 0);
        putKeeps(0, -128, -128);
        putKeeps(0, -129, 127);
        putKeeps(0, Integer.MIN_VALUE, 0);
        putKeeps(0, Integer.MAX_VALUE, -1);
        putKeeps(1, 32767, 32767);
        putKeeps(1, 32768, -32768);
        putKeeps(1, 65535, -1);
        putKeeps(1, 65536, 0);
        putKeeps(1, -32768, -32768);
        putKeeps(1, -32769, 32767);
        putKeeps(1, Integer.MIN_VALUE, 0);
        putKeeps(1, Integer.MAX_VALUE, -1);
        putKeeps(2, Integer.MIN_VALUE, Integer.MIN_VALUE);
        putKeeps(2, Integer.MAX_VALUE, Integer.MAX_VALUE);
        putKeeps(2, -1, -1);
    }
}
