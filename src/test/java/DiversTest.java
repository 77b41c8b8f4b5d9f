/** Promises 1 to 8: a new object, divers, judges, halls, dives, what is seen. */
public final class DiversTest {
    public static void main(String[] args) {
        newObject();
        divers();
        judges();
        years();
        chairs();
        dives();
        ofDives();
        seen();
        Check.finish();
    }

    private static void newObject() {
        DiveChairs x = new DiveChairs();
        for (int what = 0; what <= 5; what++) {
            Check.is("new count " + what, 0, x.count(what));
        }
        for (int what = 6; what <= 11; what++) {
            Check.is("new off " + what, 2, x.count(what));
        }
        Check.is("new highest dropped", 1, x.count(12));
        Check.is("new lowest dropped", 1, x.count(13));
        for (int hall = 0; hall < 6; hall++) {
            Check.is("new won", -4, x.won(hall));
            Check.is("new order", 0, x.order(hall));
            Check.is("new order odds", 1, x.orderOdds(hall, 0));
            Check.is("new order ways", 1, x.orderOdds(hall, 1));
            for (int chair = 0; chair < 7; chair++) {
                Check.is("new chair", -4, x.chair(hall, chair, -1));
            }
        }
        for (int d = 0; d < 8; d++) {
            Check.is("new shelf", -11, x.weight(d));
        }
        Check.is("new of", -1, x.of(0, 0));
        Check.is("new markAll", 0, x.markAll(-1));
        Check.is("new pairs", 0, x.pairs());
        Check.is("new pair odds", 1, x.pairOdds(0));
        Check.is("new pair ways", 1, x.pairOdds(1));
        Check.is("new nearest", -4, x.nearest());
        Check.is("new creep", -1000000004, x.creep(0, 0));
        Check.is("new restore", -3, x.restore());
    }

    private static void divers() {
        DiveChairs x = new DiveChairs();
        Check.is("land below", -1, x.diver(-1, 0));
        Check.is("land above", -1, x.diver(6, 0));
        Check.is("name below", -1, x.diver(0, -1));
        Check.is("name above", -1, x.diver(0, 10));
        Check.is("far away", -1, x.diver(Integer.MIN_VALUE, Integer.MAX_VALUE));
        for (int n = 0; n < 8; n++) {
            Check.is("diver", n, x.diver(n % 6, n == 7 ? 9 : n));
        }
        Check.is("no room", -2, x.diver(0, 0));
        Check.is("not as told goes ahead of no room", -1, x.diver(6, 0));
        Check.is("divers", 8, x.count(0));
    }

    private static void judges() {
        DiveChairs x = new DiveChairs();
        Check.is("kind below", -1, x.judge(-1, 0));
        Check.is("kind above", -1, x.judge(8, 0));
        Check.is("told below", -1, x.judge(0, -1));
        Check.is("told far below", -1, x.judge(0, Integer.MIN_VALUE));
        Check.is("land 6", -1, x.judge(0, 600));
        Check.is("partner 6", -1, x.judge(0, 96));
        Check.is("partner 9", -1, x.judge(7, 9));
        Check.is("told far above", -1, x.judge(0, Integer.MAX_VALUE));
        int[] told = {0, 5, 90, 500, 595, 123, 100, 250, 300, 10, 1, 455};
        for (int n = 0; n < 12; n++) {
            Check.is("judge", n, x.judge(n % 8, told[n]));
        }
        Check.is("no room", -2, x.judge(0, 0));
        Check.is("not as told goes ahead of no room", -1, x.judge(0, 6));
        Check.is("judges", 12, x.count(1));
    }

    private static void years() {
        DiveChairs x = new DiveChairs();
        Check.is("first", 0, x.year(0, 40));
        Check.is("was 40", 40, x.year(0, 7));
        Check.is("other hall", 0, x.year(5, 1));
        Check.is("hall below", -1, x.year(-1, 1));
        Check.is("hall above", -1, x.year(6, 1));
        Check.is("year below", -1, x.year(0, -1));
        Check.is("year above", -1, x.year(0, 41));
        Check.is("refused ones change nothing", 7, x.year(0, 0));
        Check.is("is 0", 0, x.year(0, 0));
    }

    private static void chairs() {
        DiveChairs x = new DiveChairs();
        x.judge(0, 0);
        x.judge(0, 0);
        Check.is("nobody was there", -4, x.chair(0, 0, 0));
        Check.is("the same again", 0, x.chair(0, 0, 0));
        Check.is("on another chair there", -3, x.chair(0, 6, 0));
        Check.is("in another hall", -4, x.chair(5, 6, 0));
        Check.is("another judge", 0, x.chair(0, 0, 1));
        Check.is("now elsewhere there", -4, x.chair(0, 6, 0));
        Check.is("refused over another one", -3, x.chair(0, 6, 1));
        Check.is("which stays", 0, x.chair(0, 6, -1));
        Check.is("nobody for nobody", -4, x.chair(0, 6, -1));
        Check.is("taken", 2, x.count(5));
        Check.is("hall below", -1, x.chair(-1, 0, 0));
        Check.is("hall above", -1, x.chair(6, 0, 0));
        Check.is("chair below", -1, x.chair(0, -1, 0));
        Check.is("chair above", -1, x.chair(0, 7, 1));
        Check.is("judge below", -1, x.chair(0, 0, -2));
        Check.is("judge not made", -1, x.chair(0, 0, 2));
        Check.is("still there", 1, x.chair(0, 0, -1));
    }

    private static void dives() {
        DiveChairs x = new DiveChairs();
        Check.is("no diver", -1, x.dive(0, 0, 0, 1000));
        x.diver(0, 0);
        Check.is("hall below", -1, x.dive(-1, 0, 0, 1000));
        Check.is("hall above", -1, x.dive(6, 0, 0, 1000));
        Check.is("diver below", -1, x.dive(0, -1, 0, 1000));
        Check.is("diver not made", -1, x.dive(0, 1, 0, 1000));
        Check.is("flaws below", -1, x.dive(0, 0, -1, 1000));
        Check.is("flaws above", -1, x.dive(0, 0, 64, 1000));
        Check.is("hard 9", -1, x.dive(0, 0, 0, 990));
        Check.is("hard 41", -1, x.dive(0, 0, 0, 4100));
        Check.is("last digit", -1, x.dive(0, 0, 0, 1001));
        Check.is("last digit 9", -1, x.dive(0, 0, 0, 4099));
        Check.is("told below", -1, x.dive(0, 0, 0, -1000));
        Check.is("told far away", -1, x.dive(0, 0, 0, Integer.MIN_VALUE));
        Check.is("hardest", 0, x.dive(5, 0, 63, 4090));
        for (int n = 1; n < 40; n++) {
            Check.is("dive", n, x.dive(n % 6, 0, n, 1000));
        }
        Check.is("no room", -2, x.dive(0, 0, 0, 1000));
        Check.is("not as told goes ahead of no room", -1, x.dive(0, 0, 0, 1005));
        Check.is("dives", 40, x.count(2));
    }

    private static void ofDives() {
        DiveChairs x = new DiveChairs();
        x.diver(0, 0);
        x.diver(0, 0);
        x.dive(4, 1, 37, 2370);
        int[] due = {4, 1, 37, 7, 23, 14, 0};
        for (int what = 0; what < 7; what++) {
            Check.is("of " + what, due[what], x.of(0, what));
        }
        Check.is("marks", 3, Scene.tell(x, 0, 5, -128, 0, 20));
        Check.is("how many marks", 3, x.of(0, 6));
        Check.is("what below", -1, x.of(0, -1));
        Check.is("what above", -1, x.of(0, 7));
        Check.is("dive below", -1, x.of(-1, 0));
        Check.is("dive not made", -1, x.of(1, 0));
        Check.is("rule", 2, Scene.rule(x, "o0 9;o2 10;"));
        Check.is("worth less", 0, x.of(0, 5));
        Check.is("rule", 1, Scene.rule(x, "o2 8;"));
        Check.is("worth 1", 1, x.of(0, 5));
        Check.is("rule", 2, Scene.rule(x, "o2 20;o5 20;"));
        Check.is("worth 0 at least", 0, x.of(0, 5));
    }

    private static void seen() {
        DiveChairs x = new DiveChairs();
        String[] rows = {"0110110", "1101101", "1011011"};
        for (int part = 0; part < 6; part++) {
            for (int chair = 0; chair < 7; chair++) {
                for (int splash = 0; splash < 10; splash++) {
                    int due = rows[part % 3].charAt(chair) - '0';
                    if (part == 5 && splash > 4) {
                        due = 0;
                    }
                    Check.is("seen " + part + " " + chair + " " + splash, due, x.seen(part, chair, splash));
                }
            }
        }
        Check.is("part below", -1, x.seen(-1, 0, 0));
        Check.is("part above", -1, x.seen(6, 0, 0));
        Check.is("chair below", -1, x.seen(0, -1, 0));
        Check.is("chair above", -1, x.seen(0, 7, 0));
        Check.is("splash below", -1, x.seen(0, 0, -1));
        Check.is("splash above", -1, x.seen(0, 0, 10));
    }
}
