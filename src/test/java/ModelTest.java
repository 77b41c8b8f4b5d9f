import java.util.Arrays;

/** Runs of calls by seeds, each answer held against the slow model of the document. */
public final class ModelTest {
    private static final int CALLS = 400;
    private static final int[] ODD = {
        Integer.MIN_VALUE, Integer.MIN_VALUE + 1, -1000000001, -129, -128, -2, -1, 0, 1, 2, 3, 5, 6, 7, 8, 9, 10, 11,
        12, 20, 21, 33, 34, 39, 40, 41, 63, 64, 119, 120, 121, 127, 595, 599, 600, 1000, 4090, 4100,
        Integer.MAX_VALUE - 1, Integer.MAX_VALUE
    };

    private long state;
    private DiveChairs x;
    private Model m;
    private String[] said;
    private boolean rich;

    private int below(int bound) {
        state = state * 6364136223846793005L + 1442695040888963407L;
        return (int) ((state >>> 33) % bound);
    }

    /** Mostly within the bound, at times just outside it, at times far away. */
    private int some(int bound) {
        int way = below(40);
        if (way == 0) {
            return ODD[below(ODD.length)];
        }
        return way == 1 ? bound : way == 2 ? -1 : below(Math.max(1, bound));
    }

    private long elementOf(int d, int i) {
        try {
            return x.element(d, i);
        } catch (IllegalArgumentException e) {
            return Long.MIN_VALUE + 1;
        } catch (IllegalStateException e) {
            return Long.MIN_VALUE + 2;
        }
    }

    private boolean alike(int at, String call, long want, long got) {
        said[at] = call + " = " + got;
        if (want != got) {
            Check.is(call, want, got);
        }
        return want == got;
    }

    private String someAtom(int depth) {
        int way = below(depth > 0 ? 5 : 2);
        switch (way) {
            case 0: return String.valueOf(below(2) == 0 ? below(12) : below(1000));
            case 1: return String.valueOf("snhmazp".charAt(below(7)));
            case 2: return "(" + someSum(depth - 1) + ")";
            case 3: return "[" + someSum(depth - 1) + "," + someSum(depth - 1) + "]";
            default: return "{" + someSum(depth - 1) + "," + someSum(depth - 1) + "}";
        }
    }

    private String someSum(int depth) {
        StringBuilder sum = new StringBuilder(someAtom(depth));
        for (int more = below(3); more > 0; more--) {
            sum.append("+-*/".charAt(below(4))).append(someAtom(depth));
        }
        return sum.toString();
    }

    private String someRule() {
        StringBuilder rule = new StringBuilder();
        for (int more = below(4); more >= 0; more--) {
            int way = below(4);
            if (way == 0) {
                rule.append('o').append(below(12) == 0 ? below(9) : below(6)).append(' ')
                        .append(below(12) == 0 ? below(30) : below(8)).append(';');
            } else if (way == 1) {
                rule.append('d').append(below(12) == 0 ? below(6) : below(3)).append(' ')
                        .append(below(12) == 0 ? below(6) : below(3)).append(';');
            } else {
                rule.append('f').append(someSum(below(3))).append(';');
            }
        }
        if (below(4) == 0) {
            spoil(rule);
        }
        if (rule.length() > 120) {
            rule.setLength(120);
        }
        return rule.toString();
    }

    private void spoil(StringBuilder rule) {
        int at = below(rule.length());
        String signs = "odf;0123456789 ,[]{}()+-*/snhmazp.\u00ff";
        char sign = signs.charAt(below(signs.length()));
        switch (below(3)) {
            case 0:
                rule.setCharAt(at, sign);
                break;
            case 1:
                rule.insert(at, sign);
                break;
            default:
                rule.setLength(at);
                break;
        }
    }

    private boolean tell(int at, int d, int[] row) {
        boolean right = alike(at, "row(" + d + ", 0, " + row.length + ")", m.row(d, 0, row.length), x.row(d, 0, row.length));
        for (int i = 0; i < row.length; i++) {
            right &= alike(at, "put(" + d + ", " + i + ", " + row[i] + ")", m.put(d, i, row[i]), x.put(d, i, row[i]));
        }
        return right;
    }

    private boolean tellRule(int at) {
        String text = someRule();
        int[] row = new int[text.length()];
        for (int i = 0; i < row.length; i++) {
            row[i] = text.charAt(i);
        }
        int d = below(4) == 0 ? below(8) : 7;
        return tell(at, d, row) && alike(at, "rule(" + d + ") of " + text, m.rule(d), x.rule(d));
    }

    private boolean tellMarks(int at) {
        int[] row = new int[below(30) == 0 ? 8 : rich ? 7 - below(2) * below(3) : below(8)];
        for (int i = 0; i < row.length; i++) {
            row[i] = below(rich ? 20 : 6) == 0 ? -128 : below(150) == 0 ? 21 : below(21);
        }
        int d = below(4) == 0 ? below(8) : 6;
        int dive = some(m.count(2));
        return tell(at, d, row) && alike(at, "marks(" + dive + ", " + d + ") of " + Arrays.toString(row), m.marks(dive, d), x.marks(dive, d));
    }

    private int told() {
        return below(30) == 0 ? ODD[below(ODD.length)] : 100 * (10 + below(31)) + 10 * below(10);
    }

    private boolean make(int at, int halls, int judges) {
        int a = some(8);
        int b = below(600) / 10 * 10 + some(6);
        int hall = some(halls);
        int chair = some(7);
        switch (below(5)) {
            case 0:
                int land = some(6);
                int name = some(10);
                return alike(at, "diver(" + land + ", " + name + ")", m.diver(land, name), x.diver(land, name));
            case 1:
                return m.count(1) >= judges || alike(at, "judge(" + a + ", " + b + ")", m.judge(a, b), x.judge(a, b));
            case 2:
                return alike(at, "chair(" + hall + ", " + chair + ", " + a + ")", m.chair(hall, chair, a), x.chair(hall, chair, a));
            case 3:
                int n = below(3) > 0 ? below(3) : some(41);
                return alike(at, "year(" + hall + ", " + n + ")", m.year(hall, n), x.year(hall, n));
            default:
                int diver = some(m.count(0));
                int flaws = below(3) == 0 ? 0 : some(64);
                int told = told();
                return alike(at, "dive(" + hall + ", " + diver + ", " + flaws + ", " + told + ")",
                        m.dive(hall, diver, flaws, told), x.dive(hall, diver, flaws, told));
        }
    }

    private boolean ask(int at, int halls) {
        int dive = some(m.count(2));
        int diver = some(m.count(0));
        int judge = some(m.count(1));
        int hall = some(halls);
        int chair = some(7);
        int two = some(2);
        switch (below(21)) {
            case 0: { int w = some(7); return alike(at, "of(" + dive + ", " + w + ")", m.of(dive, w), x.of(dive, w)); }
            case 1: { int p = some(6); int s = some(10); return alike(at, "seen(" + p + ", " + chair + ", " + s + ")", m.seen(p, chair, s), x.seen(p, chair, s)); }
            case 2: return alike(at, "would(" + dive + ", " + chair + ")", m.would(dive, chair), x.would(dive, chair));
            case 3: return alike(at, "mark(" + dive + ", " + chair + ")", m.mark(dive, chair), x.mark(dive, chair));
            case 4: return alike(at, "counts(" + dive + ")", m.counts(dive), x.counts(dive));
            case 5: return alike(at, "total(" + hall + ", " + diver + ")", m.total(hall, diver), x.total(hall, diver));
            case 6: return alike(at, "place(" + hall + ", " + diver + ")", m.place(hall, diver), x.place(hall, diver));
            case 7: return alike(at, "won(" + hall + ")", m.won(hall), x.won(hall));
            case 8: { int w = some(3); int n = w == 1 ? 10 * below(4) + some(4) : w == 2 ? some(1) : chair; return alike(at, "wonIf(" + hall + ", " + w + ", " + n + ")", m.wonIf(hall, w, n), x.wonIf(hall, w, n)); }
            case 9: { int n = some(4); return alike(at, "moved(" + hall + ", " + diver + ", " + n + ", " + two + ")", m.moved(hall, diver, n, two), x.moved(hall, diver, n, two)); }
            case 10: { int l = some(6); int w = some(4); return alike(at, "lean(" + judge + ", " + l + ", " + w + ")", m.lean(judge, l, w), x.lean(judge, l, w)); }
            case 11: return alike(at, "pairs()", m.pairs(), x.pairs());
            case 12: return m.count(1) == 7 && below(20) != 0 || alike(at, "pairOdds(" + two + ")", m.pairOdds(two), x.pairOdds(two));
            case 13: return alike(at, "order(" + hall + ")", m.order(hall), x.order(hall));
            case 14: return alike(at, "orderOdds(" + hall + ", " + two + ")", m.orderOdds(hall, two), x.orderOdds(hall, two));
            case 15: { int a = some(3); int b = some(3); return alike(at, "creep(" + a + ", " + b + ")", m.creep(a, b), x.creep(a, b)); }
            case 16: return alike(at, "near(" + judge + ")", m.near(judge), x.near(judge));
            case 17: return alike(at, "nearest()", m.nearest(), x.nearest());
            case 18: { int n = some(8); int s = some(10); return alike(at, "seeing(" + n + ", " + s + ", " + two + ")", m.seeing(n, s, two), x.seeing(n, s, two)); }
            case 19: { int n = 1 + some(30); int z = below(1 << 30) * 4 + below(4); return alike(at, "worlds(" + hall + ", " + n + ", " + z + ")", m.worlds(hall, n, z), x.worlds(hall, n, z)); }
            default: { int w = some(14); return alike(at, "count(" + w + ")", m.count(w), x.count(w)); }
        }
    }

    private boolean shelve(int at) {
        int d = some(8);
        int e = below(2) == 0 ? d : some(8);
        int i = some(6);
        int j = some(6);
        int n = some(6);
        switch (below(7)) {
            case 0: { int w = some(2); int k = some(m.count(1)); return alike(at, "keep(" + d + ", " + w + ", " + k + ")", m.keep(d, w, k), x.keep(d, w, k)); }
            case 1: { int s = some(3); return alike(at, "row(" + d + ", " + s + ", " + n + ")", m.row(d, s, n), x.row(d, s, n)); }
            case 2: { int v = below(2) == 0 ? ODD[below(ODD.length)] : below(1 << 30); return alike(at, "put(" + d + ", " + i + ", " + v + ")", m.put(d, i, v), x.put(d, i, v)); }
            case 3: return alike(at, "element(" + d + ", " + i + ")", m.element(d, i), elementOf(d, i));
            case 4: return alike(at, "copy(" + d + ", " + i + ", " + e + ", " + j + ", " + n + ")", m.copy(d, i, e, j, n), x.copy(d, i, e, j, n));
            case 5: return alike(at, "weight(" + d + ")", m.weight(d), x.weight(d));
            default: return alike(at, "toss(" + d + ")", m.toss(d), x.toss(d));
        }
    }

    private boolean image(int at) {
        if (below(3) == 0) {
            return alike(at, "image()", m.image(), x.image());
        }
        return alike(at, "restore()", m.restore(), x.restore());
    }

    /** Divers, judges and dives of few lands and halls, so that leans, pairs and places come to be. */
    private boolean open(int halls, int judges) {
        int lands = 2 + below(4);
        boolean right = true;
        for (int n = 0; n < 3 + below(6); n++) {
            int land = below(lands);
            int name = below(10);
            right &= alike(0, "diver", m.diver(land, name), x.diver(land, name));
        }
        for (int n = 0; n < judges; n++) {
            int kind = below(8);
            int told = 100 * below(lands) + 10 * below(10) + below(lands);
            right &= alike(0, "judge", m.judge(kind, told), x.judge(kind, told));
        }
        for (int hall = 0; hall < halls; hall++) {
            int n = below(3);
            right &= alike(0, "year", m.year(hall, n), x.year(hall, n));
        }
        for (int n = 0; n < 60; n++) {
            int hall = below(halls);
            int chair = below(7);
            int judge = below(judges);
            right &= alike(0, "chair", m.chair(hall, chair, judge), x.chair(hall, chair, judge));
        }
        for (int n = 0; n < 4 + below(12); n++) {
            int hall = below(halls);
            int diver = below(m.count(0));
            int flaws = below(64) & below(64);
            int told = told();
            right &= alike(0, "dive", m.dive(hall, diver, flaws, told), x.dive(hall, diver, flaws, told));
        }
        return right;
    }

    private boolean sit(int at, int halls) {
        int hall = below(halls);
        int chair = below(7);
        int judge = below(m.count(1) + 2) - 1;
        return alike(at, "chair(" + hall + ", " + chair + ", " + judge + ")", m.chair(hall, chair, judge), x.chair(hall, chair, judge));
    }

    private boolean leave(int at, int halls) {
        boolean right = true;
        int hall = below(halls);
        for (int chair = 0; chair < 7; chair++) {
            right &= alike(at, "chair(" + hall + ", " + chair + ", -1)", m.chair(hall, chair, -1), x.chair(hall, chair, -1));
        }
        return right;
    }

    private boolean call(int at, int halls, int judges) {
        int way = below(rich ? 112 : 100);
        if (way == 111) {
            return leave(at, halls);
        }
        if (way >= 100) {
            return sit(at, halls);
        }
        if (at < 60 && !rich) {
            return make(at, halls, judges);
        }
        if (rich && at < 40) {
            return tellMarks(at);
        }
        if (way < 18) {
            return make(at, halls, judges);
        }
        if (way < 24) {
            int dive = below(rich ? 20 : 3) == 0 ? -1 : some(m.count(2));
            return alike(at, "markAll(" + dive + ")", m.markAll(dive), x.markAll(dive));
        }
        if (way < 30) {
            return tellMarks(at);
        }
        if (way < 34) {
            return tellRule(at);
        }
        if (way < 46) {
            return shelve(at);
        }
        return way < 48 ? image(at) : ask(at, halls);
    }

    private void run(long seed, int calls) {
        state = seed * 7919 + 17;
        x = new DiveChairs();
        m = new Model();
        said = new String[calls];
        rich = below(3) > 0;
        int halls = rich ? 1 + below(3) : 1 + below(6);
        int judges = below(2) == 0 ? 3 + below(5) : 1 + below(12);
        boolean right = !rich || open(halls, judges);
        for (int at = 0; at < calls && right; at++) {
            right = call(at, halls, judges);
        }
        Check.holds("run " + seed, right);
        for (int at = 0; at < calls && !right && said[at] != null | at < 60; at++) {
            System.out.println("    " + said[at]);
        }
    }

    public static void main(String[] args) {
        int runs = args.length > 0 ? Integer.parseInt(args[0]) : 400;
        ModelTest test = new ModelTest();
        for (int seed = 1; seed <= runs; seed++) {
            test.run(seed, CALLS);
        }
        Check.finish();
    }
}
