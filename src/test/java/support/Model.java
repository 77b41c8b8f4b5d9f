import java.util.ArrayList;
import java.util.Collections;
import java.util.List;
import java.util.TreeMap;
import java.util.TreeSet;

/**
 * The document once more, slowly and by other ways than DiveChairs: lists instead of rows, a text that is
 * split anew for each sum, an automaton for faults, all orders written out.
 */
public final class Model {
    record Diver(int land, int name) { }

    record Judge(int number, int kind, int land, int lean, int partner) { }

    record Mark(int halves, Integer judge) { }

    static final class Dive {
        int hall;
        int diver;
        int flaws;
        int splash;
        int hard;
        TreeMap<Integer, Mark> marks = new TreeMap<>();

        Dive twin() {
            Dive twin = new Dive();
            twin.hall = hall;
            twin.diver = diver;
            twin.flaws = flaws;
            twin.splash = splash;
            twin.hard = hard;
            twin.marks = new TreeMap<>(marks);
            return twin;
        }
    }

    static final class All {
        List<Diver> divers = new ArrayList<>();
        List<Judge> judges = new ArrayList<>();
        List<Dive> dives = new ArrayList<>();
        TreeMap<Integer, Integer> years = new TreeMap<>();
        TreeMap<Integer, TreeMap<Integer, Integer>> seats = new TreeMap<>();
        int[] off = {2, 2, 2, 2, 2, 2};
        int highest = 1;
        int lowest = 1;
        String sum = "s*h/10";

        All twin() {
            All twin = new All();
            twin.divers = new ArrayList<>(divers);
            twin.judges = new ArrayList<>(judges);
            for (Dive dive : dives) {
                twin.dives.add(dive.twin());
            }
            twin.years = new TreeMap<>(years);
            for (int hall : seats.keySet()) {
                twin.seats.put(hall, new TreeMap<>(seats.get(hall)));
            }
            twin.off = off.clone();
            twin.highest = highest;
            twin.lowest = lowest;
            twin.sum = sum;
            return twin;
        }
    }

    private All all = new All();
    private All image = null;
    private final Object[] shelves = new Object[8];
    private final int[] sorts = new int[8];

    private static boolean in(int value, int least, int most) {
        return least <= value && value <= most;
    }

    private boolean isDive(int dive) {
        return in(dive, 0, all.dives.size() - 1);
    }

    private boolean isDiver(int diver) {
        return in(diver, 0, all.divers.size() - 1);
    }

    private boolean isJudge(int judge) {
        return in(judge, 0, all.judges.size() - 1);
    }

    public int diver(int land, int name) {
        if (!in(land, 0, 5) || !in(name, 0, 9)) return -1;
        if (all.divers.size() == 8) return -2;
        all.divers.add(new Diver(land, name));
        return all.divers.size() - 1;
    }

    public int judge(int kind, int told) {
        if (!in(kind, 0, 7) || told < 0) return -1;
        int land = told / 100;
        int lean = told % 100 / 10;
        int partner = told % 10;
        if (land > 5 || partner > 5) return -1;
        if (all.judges.size() == 12) return -2;
        all.judges.add(new Judge(all.judges.size(), kind, land, lean, partner));
        return all.judges.size() - 1;
    }

    public int year(int hall, int n) {
        if (!in(hall, 0, 5) || !in(n, 0, 40)) return -1;
        Integer was = all.years.put(hall, n);
        return was == null ? 0 : was;
    }

    private TreeMap<Integer, Integer> seatsOf(All a, int hall) {
        return a.seats.computeIfAbsent(hall, h -> new TreeMap<>());
    }

    public int chair(int hall, int chair, int judge) {
        if (!in(hall, 0, 5) || !in(chair, 0, 6) || !(judge == -1 || isJudge(judge))) return -1;
        TreeMap<Integer, Integer> seats = seatsOf(all, hall);
        for (int c : seats.keySet()) {
            if (c != chair && seats.get(c) == judge) return -3;
        }
        Integer was = judge == -1 ? seats.remove(chair) : seats.put(chair, judge);
        return was == null ? -4 : was;
    }

    public int dive(int hall, int diver, int flaws, int told) {
        if (!in(hall, 0, 5) || !isDiver(diver) || !in(flaws, 0, 63)) return -1;
        if (told < 0 || told % 10 != 0 || !in(told / 100, 10, 40)) return -1;
        if (all.dives.size() == 40) return -2;
        Dive dive = new Dive();
        dive.hall = hall;
        dive.diver = diver;
        dive.flaws = flaws;
        dive.splash = told % 100 / 10;
        dive.hard = told / 100;
        all.dives.add(dive);
        return all.dives.size() - 1;
    }

    private static int worth(All a, Dive dive) {
        int worth = 20;
        for (int p = 0; p < 6; p++) {
            if ((dive.flaws & 1 << p) != 0) worth -= a.off[p];
        }
        return worth < 0 ? 0 : worth;
    }

    public int of(int dive, int what) {
        if (!isDive(dive) || !in(what, 0, 6)) return -1;
        Dive d = all.dives.get(dive);
        return List.of(d.hall, d.diver, d.flaws, d.splash, d.hard, worth(all, d), d.marks.size()).get(what);
    }

    public int seen(int part, int chair, int splash) {
        if (!in(part, 0, 5) || !in(chair, 0, 6) || !in(splash, 0, 9)) return -1;
        if ((part + chair) % 3 == 0) return 0;
        return part == 5 && splash >= 5 ? 0 : 1;
    }

    private int fair(All a, Dive dive, int chair) {
        int mark = 20;
        for (int p = 0; p < 6; p++) {
            if ((dive.flaws >> p) % 2 == 1 && seen(p, chair, dive.splash) == 1) mark -= a.off[p];
        }
        return mark;
    }

    private int would(All a, int number, int chair) {
        Dive dive = a.dives.get(number);
        Judge judge = a.judges.get(seatsOf(a, dive.hall).get(chair));
        Diver diver = a.divers.get(dive.diver);
        int mark = fair(a, dive, chair);
        boolean own = diver.land == judge.land;
        if (judge.kind == 1) {
            if (mark % 2 != 0) mark--;
        } else if (judge.kind == 2) {
            if (own) mark += judge.lean;
        } else if (judge.kind == 3) {
            if (own) mark += judge.lean;
            if (diver.land == judge.partner && judge.partner != judge.land) mark += judge.lean;
        } else if (judge.kind == 4) {
            mark += diver.name / 2;
            Dive ahead = null;
            for (Dive other : a.dives.subList(0, number)) {
                if (other.hall == dive.hall) ahead = other;
            }
            if (ahead != null && worth(a, ahead) >= 15) mark++;
        } else if (judge.kind == 5) {
            List<Integer> others = new ArrayList<>();
            for (int c : seatsOf(a, dive.hall).keySet()) {
                if (a.judges.get(seatsOf(a, dive.hall).get(c)).kind != 5) others.add(would(a, number, c));
            }
            if (!others.isEmpty()) mark = middle(others);
        } else if (judge.kind == 7) {
            mark = 20;
            for (int p = 0; p < 3; p++) {
                if ((dive.flaws >> p) % 2 == 1) mark -= a.off[p];
            }
        }
        return mark < 0 ? 0 : mark > 20 ? 20 : mark;
    }

    private static int middle(List<Integer> numbers) {
        List<Integer> sorted = new ArrayList<>(numbers);
        Collections.sort(sorted);
        return sorted.get(sorted.size() / 2);
    }

    private static List<Integer> halves(Dive dive) {
        List<Integer> halves = new ArrayList<>();
        for (Mark mark : dive.marks.values()) {
            halves.add(mark.halves);
        }
        return halves;
    }

    public int would(int dive, int chair) {
        if (!isDive(dive) || !in(chair, 0, 6)) return -1;
        if (!seatsOf(all, all.dives.get(dive).hall).containsKey(chair)) return -4;
        return would(all, dive, chair);
    }

    private int markDive(All a, int number) {
        Dive dive = a.dives.get(number);
        dive.marks.clear();
        for (int c : seatsOf(a, dive.hall).keySet()) {
            dive.marks.put(c, new Mark(would(a, number, c), seatsOf(a, dive.hall).get(c)));
        }
        return dive.marks.size();
    }

    public int markAll(int dive) {
        if (dive != -1) return isDive(dive) ? markDive(all, dive) : -1;
        int sum = 0;
        for (int d = 0; d < all.dives.size(); d++) {
            sum += markDive(all, d);
        }
        return sum;
    }

    private int refusalOfRow(int d) {
        if (shelves[d] == null) return -11;
        return shelves[d] instanceof Judge ? -12 : 0;
    }

    private int refusalOfBytes(int d) {
        int refusal = refusalOfRow(d);
        return refusal == 0 && sorts[d] != 0 ? -12 : refusal;
    }

    public int marks(int dive, int d) {
        if (!isDive(dive) || !in(d, 0, 7)) return -1;
        int refusal = refusalOfBytes(d);
        if (refusal != 0) return refusal;
        int[] row = (int[]) shelves[d];
        if (row.length > 7) return -13;
        for (int v : row) {
            if (v != -128 && !in(v, 0, 20)) return -13;
        }
        Dive told = all.dives.get(dive);
        told.marks.clear();
        for (int c = 0; c < row.length; c++) {
            if (row[c] != -128) told.marks.put(c, new Mark(row[c], seatsOf(all, told.hall).get(c)));
        }
        return told.marks.size();
    }

    public int mark(int dive, int chair) {
        if (!isDive(dive) || !in(chair, 0, 6)) return -1;
        Mark mark = all.dives.get(dive).marks.get(chair);
        return mark == null ? -4 : mark.halves;
    }

    /** The place where no rule can go on, or -1: an automaton with a stack. */
    private static int fault(String text) {
        char mode = 'S';
        int digits = 0;
        boolean nought = false;
        int statements = 0;
        StringBuilder open = new StringBuilder();
        for (int i = 0; i < text.length(); i++) {
            char c = text.charAt(i);
            boolean digit = c >= '0' && c <= '9';
            if (mode == 'S') {
                if (c == 'o' || c == 'd') mode = '1';
                else if (c == 'f') mode = 'A';
                else return i;
                digits = 0;
                nought = false;
            } else if (mode == '1' || mode == '2') {
                if (digit && digits < 3 && !nought) {
                    nought = digits == 0 && c == '0';
                    digits++;
                } else if (mode == '1' && c == ' ' && digits > 0) {
                    mode = '2';
                    digits = 0;
                    nought = false;
                } else if (mode == '2' && c == ';' && digits > 0) {
                    mode = 'S';
                    statements++;
                } else {
                    return i;
                }
            } else if (mode == 'A') {
                if (digit) {
                    mode = 'D';
                    digits = 1;
                    nought = c == '0';
                } else if ("snhmazp".indexOf(c) >= 0) {
                    mode = 'B';
                } else if ("([{".indexOf(c) >= 0 && open.length() < 6) {
                    open.append(c);
                } else {
                    return i;
                }
            } else if (mode == 'D' && digit) {
                if (digits == 3 || nought) return i;
                digits++;
            } else {
                char last = open.length() == 0 ? 0 : open.charAt(open.length() - 1);
                if ("+-*/".indexOf(c) >= 0) {
                    mode = 'A';
                } else if (c == ';' && last == 0) {
                    mode = 'S';
                    statements++;
                } else if (c == ',' && (last == '[' || last == '{')) {
                    open.setCharAt(open.length() - 1, last == '[' ? ']' : '}');
                    mode = 'A';
                } else if (last != 0 && (c == ')' && last == '(' || c == last && "]}".indexOf(c) >= 0)) {
                    open.setLength(open.length() - 1);
                    mode = 'B';
                } else {
                    return i;
                }
            }
        }
        return mode == 'S' && statements > 0 ? -1 : text.length();
    }

    public int rule(int d) {
        if (!in(d, 0, 7)) return -1;
        int refusal = refusalOfBytes(d);
        if (refusal != 0) return refusal;
        StringBuilder bytes = new StringBuilder();
        for (int v : (int[]) shelves[d]) {
            bytes.append((char) (v & 255));
        }
        String text = bytes.toString();
        int fault = fault(text);
        if (fault >= 0) return -1000 - fault;
        All tried = all.twin();
        int at = 0;
        int statements = 0;
        while (at < text.length()) {
            int end = text.indexOf(';', at);
            String body = text.substring(at + 1, end);
            char letter = text.charAt(at);
            if (letter == 'f') {
                tried.sum = body;
            } else {
                int first = Integer.parseInt(body.substring(0, body.indexOf(' ')));
                int second = Integer.parseInt(body.substring(body.indexOf(' ') + 1));
                if (letter == 'o' && (first > 5 || second > 20)) return -2000 - at;
                if (letter == 'd' && (first > 3 || second > 3)) return -2000 - at;
                if (letter == 'o') {
                    tried.off[first] = second;
                } else {
                    tried.highest = first;
                    tried.lowest = second;
                }
            }
            at = end + 1;
            statements++;
        }
        all = tried;
        return statements;
    }

    /** Splits at the last sign of a level that stands outside brackets. */
    private static int lastOutside(String sum, String signs) {
        int open = 0;
        for (int i = sum.length() - 1; i >= 0; i--) {
            char c = sum.charAt(i);
            if (")]}".indexOf(c) >= 0) open++;
            else if ("([{".indexOf(c) >= 0) open--;
            else if (open == 0 && signs.indexOf(c) >= 0) return i;
        }
        return -1;
    }

    private static int evaluate(String sum, TreeMap<Character, Integer> fields) {
        int sign = lastOutside(sum, "+-");
        if (sign < 0) sign = lastOutside(sum, "*/");
        if (sign >= 0) {
            int left = evaluate(sum.substring(0, sign), fields);
            int right = evaluate(sum.substring(sign + 1), fields);
            switch (sum.charAt(sign)) {
                case '+': return left + right;
                case '-': return left - right;
                case '*': return left * right;
                default: return right == 0 ? 0 : (int) ((long) left / right);
            }
        }
        char first = sum.charAt(0);
        if (fields.containsKey(first)) return fields.get(first);
        if (first >= '0' && first <= '9') return Integer.parseInt(sum);
        String inner = sum.substring(1, sum.length() - 1);
        if (first == '(') return evaluate(inner, fields);
        int comma = lastOutside(inner, ",");
        int left = evaluate(inner.substring(0, comma), fields);
        int right = evaluate(inner.substring(comma + 1), fields);
        return first == '[' ? Math.min(left, right) : Math.max(left, right);
    }

    private static int counted(All a, Dive dive) {
        List<Integer> marks = halves(dive);
        Collections.sort(marks);
        if (marks.size() < a.highest + a.lowest + 1) return 0;
        List<Integer> kept = marks.subList(a.lowest, marks.size() - a.highest);
        TreeMap<Character, Integer> fields = new TreeMap<>();
        int sum = 0;
        for (int v : kept) {
            sum += v;
        }
        fields.put('s', sum);
        fields.put('n', kept.size());
        fields.put('h', dive.hard);
        fields.put('m', middle(marks));
        fields.put('a', Collections.max(marks));
        fields.put('z', Collections.min(marks));
        fields.put('p', dive.splash);
        return evaluate(a.sum, fields);
    }

    public int counts(int dive) {
        return isDive(dive) ? counted(all, all.dives.get(dive)) : -1000000001;
    }

    private static TreeMap<Integer, Long> totals(All a, int hall) {
        TreeMap<Integer, Long> totals = new TreeMap<>();
        for (Dive dive : a.dives) {
            if (dive.hall == hall) totals.merge(dive.diver, (long) counted(a, dive), Long::sum);
        }
        return totals;
    }

    private static int place(TreeMap<Integer, Long> totals, int diver) {
        if (!totals.containsKey(diver)) return -4;
        int place = 1;
        for (int other : totals.keySet()) {
            if (totals.get(other) > totals.get(diver)) place++;
        }
        return place;
    }

    private static int winner(TreeMap<Integer, Long> totals) {
        for (int diver : totals.keySet()) {
            if (place(totals, diver) == 1) return diver;
        }
        return -4;
    }

    public long total(int hall, int diver) {
        if (!in(hall, 0, 5) || !isDiver(diver)) return Long.MIN_VALUE / 2;
        return totals(all, hall).getOrDefault(diver, Long.MIN_VALUE / 2);
    }

    public int place(int hall, int diver) {
        if (!in(hall, 0, 5) || !isDiver(diver)) return -1;
        return place(totals(all, hall), diver);
    }

    public int won(int hall) {
        return in(hall, 0, 5) ? winner(totals(all, hall)) : -1;
    }

    public int wonIf(int hall, int what, int n) {
        if (!in(hall, 0, 5) || !in(what, 0, 2)) return -1;
        if (what == 0 && !in(n, 0, 6)) return -1;
        if (what == 1 && (n < 0 || n / 10 > 3 || n % 10 > 3)) return -1;
        if (what == 2 && n != 0) return -1;
        All a = all.twin();
        if (what == 1) {
            a.highest = n / 10;
            a.lowest = n % 10;
        }
        for (Dive dive : a.dives) {
            if (what == 0) dive.marks.remove(n);
            if (what == 2) dive.marks.replaceAll((c, mark) -> leanless(a, dive, mark));
        }
        return winner(totals(a, hall));
    }

    private static Mark leanless(All a, Dive dive, Mark mark) {
        if (mark.judge == null) return mark;
        Judge judge = a.judges.get(mark.judge);
        int land = a.divers.get(dive.diver).land;
        boolean leans = judge.kind == 2 && land == judge.land
                || judge.kind == 3 && (land == judge.land || land == judge.partner);
        return leans ? new Mark(Math.max(0, mark.halves - judge.lean), mark.judge) : mark;
    }

    public int moved(int hall, int diver, int n, int what) {
        if (!in(hall, 0, 5) || !isDiver(diver) || !in(n, 1, 3) || !in(what, 0, 1)) return -1;
        if (!totals(all, hall).containsKey(diver)) return -4;
        TreeMap<Integer, Integer> leastSetByPlace = new TreeMap<>();
        for (int set = 127; set >= 0; set--) {
            if (Integer.bitCount(set) != n) continue;
            All a = all.twin();
            for (Dive dive : a.dives) {
                for (int c = 0; c < 7; c++) {
                    if (dive.hall == hall && (set & 1 << c) != 0 && dive.marks.containsKey(c)) {
                        dive.marks.put(c, new Mark(dive.diver == diver ? 20 : 0, null));
                    }
                }
            }
            leastSetByPlace.put(place(totals(a, hall), diver), set);
        }
        return what == 0 ? leastSetByPlace.firstKey() : leastSetByPlace.firstEntry().getValue();
    }

    private List<Integer> differences(int judge, int land) {
        List<Integer> differences = new ArrayList<>();
        for (Dive dive : all.dives) {
            if (land >= 0 && all.divers.get(dive.diver).land != land) continue;
            for (Mark mark : dive.marks.values()) {
                if (mark.judge != null && mark.judge == judge) differences.add(mark.halves - middle(halves(dive)));
            }
        }
        return differences;
    }

    private static int sum(List<Integer> numbers) {
        int sum = 0;
        for (int v : numbers) {
            sum += v;
        }
        return sum;
    }

    public int lean(int judge, int land, int what) {
        if (!isJudge(judge) || !in(land, 0, 5) || !in(what, 0, 3)) return -1000000001;
        List<Integer> differences = differences(judge, land);
        if (what == 0) return sum(differences);
        if (what == 1) return differences.size();
        if (differences.isEmpty()) return -1000000004;
        return what == 2 ? Collections.min(differences) : Collections.max(differences);
    }

    private int pairs(List<Integer> lands) {
        int pairs = 0;
        for (int a = 0; a < lands.size(); a++) {
            for (int b = a + 1; b < lands.size(); b++) {
                if (lands.get(a).equals(lands.get(b))) continue;
                boolean together = false;
                for (int hall = 0; hall < 6; hall++) {
                    together |= seatsOf(all, hall).containsValue(a) && seatsOf(all, hall).containsValue(b);
                }
                if (together) continue;
                if (sum(differences(a, lands.get(b))) > 0 && sum(differences(b, lands.get(a))) > 0) pairs++;
            }
        }
        return pairs;
    }

    private List<Integer> lands() {
        List<Integer> lands = new ArrayList<>();
        for (Judge judge : all.judges) {
            lands.add(judge.land);
        }
        return lands;
    }

    public int pairs() {
        return pairs(lands());
    }

    private static List<List<Integer>> orders(int size) {
        if (size == 0) return List.of(List.of());
        List<List<Integer>> orders = new ArrayList<>();
        for (List<Integer> shorter : orders(size - 1)) {
            for (int at = 0; at <= shorter.size(); at++) {
                List<Integer> longer = new ArrayList<>(shorter);
                longer.add(at, size - 1);
                orders.add(longer);
            }
        }
        return orders;
    }

    public int pairOdds(int what) {
        if (!in(what, 0, 1)) return -1;
        if (all.judges.size() > 7) return -3;
        List<List<Integer>> orders = orders(all.judges.size());
        if (what == 1) return orders.size();
        List<Integer> lands = lands();
        int least = pairs(lands);
        int ways = 0;
        for (List<Integer> order : orders) {
            List<Integer> dealt = new ArrayList<>();
            for (int at : order) {
                dealt.add(lands.get(at));
            }
            if (pairs(dealt) >= least) ways++;
        }
        return ways;
    }

    private List<Integer> countsIn(int hall) {
        List<Integer> counts = new ArrayList<>();
        for (Dive dive : all.dives) {
            if (dive.hall == hall) counts.add(counted(all, dive));
        }
        return counts;
    }

    private static int rising(List<Integer> counts) {
        int rising = 0;
        for (int a = 0; a < counts.size(); a++) {
            for (int b = a + 1; b < counts.size(); b++) {
                rising += Integer.signum(Integer.compare(counts.get(b), counts.get(a)));
            }
        }
        return rising;
    }

    public int order(int hall) {
        return in(hall, 0, 5) ? rising(countsIn(hall)) : -1000000001;
    }

    public int orderOdds(int hall, int what) {
        if (!in(hall, 0, 5) || !in(what, 0, 1)) return -1;
        List<Integer> counts = countsIn(hall);
        if (counts.size() > 7) return -3;
        List<List<Integer>> orders = orders(counts.size());
        if (what == 1) return orders.size();
        int ways = 0;
        for (List<Integer> order : orders) {
            List<Integer> anew = new ArrayList<>();
            for (int at : order) {
                anew.add(counts.get(at));
            }
            if (rising(anew) >= rising(counts)) ways++;
        }
        return ways;
    }

    private List<Integer> marksBy(int judge, int year) {
        List<Integer> marks = new ArrayList<>();
        for (Dive dive : all.dives) {
            if (all.years.getOrDefault(dive.hall, 0) != year) continue;
            for (Mark mark : dive.marks.values()) {
                if (mark.judge != null && mark.judge == judge) marks.add(mark.halves);
            }
        }
        return marks;
    }

    public int creep(int first, int second) {
        if (!in(first, 0, 40) || !in(second, 0, 40)) return -1000000001;
        List<Integer> creeps = new ArrayList<>();
        for (int j = 0; j < all.judges.size(); j++) {
            List<Integer> before = marksBy(j, first);
            List<Integer> behind = marksBy(j, second);
            if (before.isEmpty() || behind.isEmpty()) continue;
            creeps.add(sum(behind) * 100 / behind.size() - sum(before) * 100 / before.size());
        }
        return creeps.isEmpty() ? -1000000004 : sum(creeps);
    }

    private int distance(int judge) {
        int distance = 0;
        for (int v : differences(judge, -1)) {
            distance += v < 0 ? -v : v;
        }
        return distance;
    }

    public int near(int judge) {
        if (!isJudge(judge)) return -1;
        return differences(judge, -1).isEmpty() ? -4 : distance(judge);
    }

    public int nearest() {
        int best = -4;
        for (int j = all.judges.size() - 1; j >= 0; j--) {
            int many = differences(j, -1).size();
            if (many == 0) continue;
            if (best < 0 || distance(j) * differences(best, -1).size() <= distance(best) * many) best = j;
        }
        return best;
    }

    public int seeing(int n, int splash, int what) {
        if (!in(n, 0, 7) || !in(splash, 0, 9) || !in(what, 0, 1)) return -1;
        TreeMap<Integer, Integer> leastSetByMany = new TreeMap<>();
        for (int set = 127; set >= 0; set--) {
            if (Integer.bitCount(set) != n) continue;
            TreeSet<Integer> parts = new TreeSet<>();
            for (int c = 0; c < 7; c++) {
                for (int p = 0; p < 6; p++) {
                    if ((set & 1 << c) != 0 && seen(p, c, splash) == 1) parts.add(p);
                }
            }
            leastSetByMany.put(parts.size(), set);
        }
        return what == 0 ? leastSetByMany.lastKey() : leastSetByMany.lastEntry().getValue();
    }

    public int worlds(int hall, int n, int z) {
        if (!in(hall, 0, 5) || !in(n, 1, 30)) return -1;
        if (totals(all, hall).isEmpty()) return -4;
        int right = 0;
        int seed = z;
        for (int world = 0; world < n; world++) {
            All a = all.twin();
            for (Dive dive : a.dives) {
                if (dive.hall != hall) continue;
                seed = (int) (seed * 1103515245L + 12345L);
                long bare = seed < 0 ? seed + (1L << 31) : seed;
                dive.flaws = (int) (bare / 65536 % 64);
            }
            TreeMap<Integer, Long> worths = new TreeMap<>();
            for (int d = 0; d < a.dives.size(); d++) {
                Dive dive = a.dives.get(d);
                if (dive.hall != hall) continue;
                markDive(a, d);
                worths.merge(dive.diver, (long) worth(a, dive) * dive.hard, Long::sum);
            }
            int winner = winner(totals(a, hall));
            if (worths.get(winner).equals(Collections.max(worths.values()))) right++;
        }
        return right;
    }

    public int image() {
        image = all.twin();
        return all.dives.size();
    }

    public int restore() {
        if (image == null) return -3;
        all = image.twin();
        return all.dives.size();
    }

    public int count(int what) {
        List<Integer> marks = new ArrayList<>();
        for (Dive dive : all.dives) {
            marks.addAll(halves(dive));
        }
        int seats = 0;
        for (TreeMap<Integer, Integer> hall : all.seats.values()) {
            seats += hall.size();
        }
        if (in(what, 6, 11)) return all.off[what - 6];
        switch (what) {
            case 0: return all.divers.size();
            case 1: return all.judges.size();
            case 2: return all.dives.size();
            case 3: return marks.size();
            case 4: return sum(marks);
            case 5: return seats;
            case 12: return all.highest;
            case 13: return all.lowest;
            default: return -1;
        }
    }

    public int keep(int d, int what, int k) {
        if (!in(d, 0, 7) || !in(what, 0, 1) || what == 1 && !isJudge(k)) return -1;
        shelves[d] = what == 0 ? null : all.judges.get(k);
        return 0;
    }

    public int row(int d, int sort, int n) {
        if (!in(d, 0, 7) || !in(sort, 0, 2) || n > 120) return -1;
        if (n < 0) return -14;
        shelves[d] = new int[n];
        sorts[d] = sort;
        return 0;
    }

    public int put(int d, int i, int v) {
        if (!in(d, 0, 7)) return -1;
        int refusal = refusalOfRow(d);
        if (refusal != 0) return refusal;
        int[] row = (int[]) shelves[d];
        if (!in(i, 0, row.length - 1)) return -13;
        int cut = 32 - (8 << sorts[d]);
        row[i] = v << cut >> cut;
        return 0;
    }

    /** Long.MIN_VALUE and 1, 2 more stand for the two exceptions. */
    public long element(int d, int i) {
        if (!in(d, 0, 7)) return Long.MIN_VALUE + 1;
        if (refusalOfRow(d) != 0 || !in(i, 0, ((int[]) shelves[d]).length - 1)) return Long.MIN_VALUE + 2;
        return ((int[]) shelves[d])[i];
    }

    public int copy(int d, int i, int e, int j, int n) {
        if (!in(d, 0, 7) || !in(e, 0, 7)) return -1;
        if (shelves[d] == null || shelves[e] == null) return -11;
        if (refusalOfRow(d) != 0 || refusalOfRow(e) != 0 || sorts[d] != sorts[e]) return -12;
        int[] from = (int[]) shelves[d];
        int[] to = (int[]) shelves[e];
        if (i < 0 || j < 0 || n < 0 || (long) i + n > from.length || (long) j + n > to.length) return -13;
        int[] taken = from.clone();
        for (int k = 0; k < n; k++) {
            to[j + k] = taken[i + k];
        }
        return n;
    }

    public int weight(int d) {
        if (!in(d, 0, 7)) return -1;
        if (shelves[d] == null) return -11;
        if (!(shelves[d] instanceof Judge)) return -12;
        Judge judge = (Judge) shelves[d];
        int plain = judge.land + 10;
        return List.of(plain, plain + 2, plain + judge.lean, plain + judge.lean + judge.partner,
                plain * 2, plain - 5, 10, 17).get(judge.kind);
    }

    public int toss(int d) {
        if (!in(d, 0, 7)) return -1;
        if (shelves[d] == null) return -11;
        if (!(shelves[d] instanceof Judge)) return -12;
        Judge judge = (Judge) shelves[d];
        if (judge.kind == 1 || (judge.kind == 2 || judge.kind == 3) && judge.lean == 0) return -15;
        return judge.number + (judge.kind == 3 ? 100 + judge.partner : judge.kind == 7 ? 200 : 0);
    }
}
