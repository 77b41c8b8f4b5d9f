public final class DiveChairs {
    private static final int DIVERS = 8;
    private static final int LANDS = 6;
    private static final int NAMES = 10;
    private static final int JUDGES = 12;
    private static final int KINDS = 8;
    private static final int HALLS = 6;
    private static final int YEARS = 41;
    private static final int CHAIRS = 7;
    private static final int CHAIR_SETS = 128;
    private static final int DIVES = 40;
    private static final int PARTS = 6;
    private static final int MACHINE_PARTS = 7;
    private static final int FLAW_SETS = 64;
    private static final int SPLASHES = 10;
    private static final int LEAST_HARD = 10;
    private static final int MOST_HARD = 40;
    private static final int SHELVES = 8;
    private static final int SORTS = 3;
    private static final int MOST_ELEMENTS = 120;
    private static final int MOST_WORLDS = 30;
    private static final int MOST_DEALT = 7;

    private static final int STEADY = 1;
    private static final int OWN = 2;
    private static final int SWAPPING = 3;
    private static final int DRAWN = 4;
    private static final int MIDDLING = 5;
    private static final int BLIND = 6;
    private static final int MACHINE = 7;

    private static final int BEST_MARK = 20;
    private static final int MISSING = -128;
    private static final int NOBODY = -1;
    private static final int ANY_LAND = -1;
    private static final int MOST_OFF = 20;
    private static final int MOST_DROPPED = 3;
    private static final int GOOD_WORTH = 15;

    private static final int NO_SUCH = -1;
    private static final int NO_ROOM = -2;
    private static final int NOT_NOW = -3;
    private static final int NONE = -4;
    private static final int NOTHING_HELD = -11;
    private static final int OTHER_KIND = -12;
    private static final int NO_PLACE = -13;
    private static final int BELOW_ZERO = -14;
    private static final int NO_FAILURE = -15;
    private static final int FAR_LESS = -1000000000;
    private static final long NO_TOTAL = -4611686018427387904L;

    private final State now = new State();
    private final State imaged = new State();
    private final State mind = new State();
    private final Shelf[] shelves = new Shelf[SHELVES];
    private final RuleReader reader = new RuleReader();
    private final OrderDealing orders = new OrderDealing();
    private final LandDealing deals = new LandDealing();
    private final Tally tally = new Tally();
    private boolean imageTaken;

    public DiveChairs() {
        for (int d = 0; d < SHELVES; d++) {
            shelves[d] = new Shelf();
        }
    }

    // ---- divers, judges, halls, dives

    public int diver(int land, int name) {
        if (!within(land, LANDS) || !within(name, NAMES)) {
            return NO_SUCH;
        }
        return now.addDiver(land, name);
    }

    public int judge(int kind, int told) {
        if (!within(kind, KINDS) || !within(told, 100 * LANDS) || !within(told % 10, LANDS)) {
            return NO_SUCH;
        }
        return now.addJudge(kind, told);
    }

    public int year(int hall, int n) {
        if (!within(hall, HALLS) || !within(n, YEARS)) {
            return NO_SUCH;
        }
        int before = now.years[hall];
        now.years[hall] = n;
        return before;
    }

    public int chair(int hall, int chair, int judge) {
        boolean known = judge == NOBODY || within(judge, now.judges);
        if (!within(hall, HALLS) || !within(chair, CHAIRS) || !known) {
            return NO_SUCH;
        }
        if (now.isOnOtherChair(hall, chair, judge)) {
            return NOT_NOW;
        }
        int before = now.seatOf(hall, chair);
        now.seats[hall * CHAIRS + chair] = judge;
        return before == NOBODY ? NONE : before;
    }

    public int dive(int hall, int diver, int flaws, int told) {
        if (!within(hall, HALLS) || !within(diver, now.divers) || !within(flaws, FLAW_SETS)) {
            return NO_SUCH;
        }
        if (told < 100 * LEAST_HARD || told >= 100 * (MOST_HARD + 1) || told % 10 != 0) {
            return NO_SUCH;
        }
        return now.addDive(hall, diver, flaws, told);
    }

    public int of(int dive, int what) {
        Dive asked = now.diveAt(dive);
        if (asked == null) {
            return NO_SUCH;
        }
        switch (what) {
            case 0: return asked.hall;
            case 1: return asked.diver;
            case 2: return asked.flaws;
            case 3: return asked.splash;
            case 4: return asked.hard;
            case 5: return now.worthOf(asked);
            case 6: return asked.marksThere();
            default: return NO_SUCH;
        }
    }

    public int seen(int part, int chair, int splash) {
        if (!within(part, PARTS) || !within(chair, CHAIRS) || !within(splash, SPLASHES)) {
            return NO_SUCH;
        }
        return partsSeen(chair, splash) >> part & 1;
    }

    // ---- marks, rules

    public int would(int dive, int chair) {
        if (!within(dive, now.dives) || !within(chair, CHAIRS)) {
            return NO_SUCH;
        }
        return now.wouldMark(dive, chair);
    }

    public int markAll(int dive) {
        if (dive != -1) {
            return within(dive, now.dives) ? now.markDive(dive) : NO_SUCH;
        }
        int there = 0;
        for (int each = 0; each < now.dives; each++) {
            there += now.markDive(each);
        }
        return there;
    }

    public int marks(int dive, int d) {
        Dive told = now.diveAt(dive);
        Shelf shelf = shelfAt(d);
        if (told == null || shelf == null) {
            return NO_SUCH;
        }
        int refusal = shelf.refusalAsText();
        if (refusal != 0) {
            return refusal;
        }
        if (!shelf.holdsMarks()) {
            return NO_PLACE;
        }
        for (int chair = 0; chair < CHAIRS; chair++) {
            int mark = chair < shelf.size ? shelf.elements[chair] : MISSING;
            told.tell(chair, mark, now.seatOf(told.hall, chair));
        }
        return told.marksThere();
    }

    public int mark(int dive, int chair) {
        Dive asked = now.diveAt(dive);
        if (asked == null || !within(chair, CHAIRS)) {
            return NO_SUCH;
        }
        return asked.hasMark(chair) ? asked.marks[chair] : NONE;
    }

    public int rule(int d) {
        Shelf shelf = shelfAt(d);
        if (shelf == null) {
            return NO_SUCH;
        }
        int refusal = shelf.refusalAsText();
        if (refusal != 0) {
            return refusal;
        }
        int answer = reader.read(shelf, now.rule);
        if (answer > 0) {
            now.rule.copyFrom(reader.draft);
        }
        return answer;
    }

    public int counts(int dive) {
        Dive asked = now.diveAt(dive);
        return asked == null ? FAR_LESS + NO_SUCH : now.countOf(asked);
    }

    // ---- places

    public long total(int hall, int diver) {
        if (!within(hall, HALLS) || !within(diver, now.divers)) {
            return NO_TOTAL;
        }
        int there = now.addUp(hall, false);
        return holds(there, diver) ? now.totals[diver] : NO_TOTAL;
    }

    public int place(int hall, int diver) {
        if (!within(hall, HALLS) || !within(diver, now.divers)) {
            return NO_SUCH;
        }
        return now.placeOf(hall, diver, false);
    }

    public int won(int hall) {
        return within(hall, HALLS) ? now.winner(hall) : NO_SUCH;
    }

    public int wonIf(int hall, int what, int n) {
        if (!within(hall, HALLS) || !isSupposable(what, n)) {
            return NO_SUCH;
        }
        mind.copyFrom(now);
        switch (what) {
            case 0:
                mind.takeChairOff(n);
                break;
            case 1:
                mind.rule.dropHighest = n / 10;
                mind.rule.dropLowest = n % 10;
                break;
            default:
                mind.takeLeansOff();
                break;
        }
        return mind.winner(hall);
    }

    public int moved(int hall, int diver, int n, int what) {
        if (!within(hall, HALLS) || !within(diver, now.divers) || n < 1 || n > 3 || !within(what, 2)) {
            return NO_SUCH;
        }
        int best = NONE;
        int bestSet = NONE;
        for (int set = 0; set < CHAIR_SETS; set++) {
            if (Integer.bitCount(set) == n) {
                int place = placeMovedBy(hall, diver, set);
                if (best < 0 || place < best) {
                    best = place;
                    bestSet = place < 0 ? NONE : set;
                }
            }
        }
        return what == 0 ? best : bestSet;
    }

    // ---- leans

    public int lean(int judge, int land, int what) {
        if (!within(judge, now.judges) || !within(land, LANDS) || !within(what, 4)) {
            return FAR_LESS + NO_SUCH;
        }
        now.tallyUp(tally, judge, land);
        if (what == 0) {
            return tally.sum;
        }
        if (what == 1) {
            return tally.many;
        }
        if (tally.many == 0) {
            return FAR_LESS + NONE;
        }
        return what == 2 ? tally.least : tally.greatest;
    }

    public int pairs() {
        deals.takeFrom(now);
        return deals.asItStands();
    }

    public int pairOdds(int what) {
        if (!within(what, 2)) {
            return NO_SUCH;
        }
        if (now.judges > MOST_DEALT) {
            return NOT_NOW;
        }
        deals.takeFrom(now);
        return what == 0 ? deals.waysAsGood() : deals.allWays();
    }

    public int order(int hall) {
        if (!within(hall, HALLS)) {
            return FAR_LESS + NO_SUCH;
        }
        orders.takeFrom(now, hall);
        return orders.asItStands();
    }

    public int orderOdds(int hall, int what) {
        if (!within(hall, HALLS) || !within(what, 2)) {
            return NO_SUCH;
        }
        orders.takeFrom(now, hall);
        if (orders.size > MOST_DEALT) {
            return NOT_NOW;
        }
        return what == 0 ? orders.waysAsGood() : orders.allWays();
    }

    public int creep(int first, int second) {
        if (!within(first, YEARS) || !within(second, YEARS)) {
            return FAR_LESS + NO_SUCH;
        }
        int sum = 0;
        boolean found = false;
        for (int judge = 0; judge < now.judges; judge++) {
            int before = now.meanOf(judge, first);
            int behind = now.meanOf(judge, second);
            if (before >= 0 && behind >= 0) {
                sum += behind - before;
                found = true;
            }
        }
        return found ? sum : FAR_LESS + NONE;
    }

    public int near(int judge) {
        if (!within(judge, now.judges)) {
            return NO_SUCH;
        }
        now.tallyUp(tally, judge, ANY_LAND);
        return tally.many == 0 ? NONE : tally.distance;
    }

    public int nearest() {
        int best = NONE;
        int bestDistance = 0;
        int bestMany = 0;
        for (int judge = 0; judge < now.judges; judge++) {
            now.tallyUp(tally, judge, ANY_LAND);
            // Crosswise products compare the two fractions exactly.
            boolean nearer = best < 0 || tally.distance * bestMany < bestDistance * tally.many;
            if (tally.many > 0 && nearer) {
                best = judge;
                bestDistance = tally.distance;
                bestMany = tally.many;
            }
        }
        return best;
    }

    public int seeing(int n, int splash, int what) {
        if (n < 0 || n > CHAIRS || !within(splash, SPLASHES) || !within(what, 2)) {
            return NO_SUCH;
        }
        int best = -1;
        int bestSet = 0;
        for (int set = 0; set < CHAIR_SETS; set++) {
            if (Integer.bitCount(set) == n) {
                int parts = partsSeenFrom(set, splash);
                if (parts > best) {
                    best = parts;
                    bestSet = set;
                }
            }
        }
        return what == 0 ? best : bestSet;
    }

    public int worlds(int hall, int n, int z) {
        if (!within(hall, HALLS) || n < 1 || n > MOST_WORLDS) {
            return NO_SUCH;
        }
        if (now.winner(hall) == NONE) {
            return NONE;
        }
        mind.copyFrom(now);
        int seed = z;
        int right = 0;
        for (int world = 0; world < n; world++) {
            seed = mind.flawAnew(hall, seed);
            if (mind.isRight(hall)) {
                right++;
            }
        }
        return right;
    }

    // ---- the image, what is told

    public int image() {
        imaged.copyFrom(now);
        imageTaken = true;
        return now.dives;
    }

    public int restore() {
        if (!imageTaken) {
            return NOT_NOW;
        }
        now.copyFrom(imaged);
        return now.dives;
    }

    public int count(int what) {
        switch (what) {
            case 0: return now.divers;
            case 1: return now.judges;
            case 2: return now.dives;
            case 3: return now.marksThere();
            case 4: return now.sumOfMarks();
            case 5: return now.seatsTaken();
            case 12: return now.rule.dropHighest;
            case 13: return now.rule.dropLowest;
            default: return within(what - 6, PARTS) ? now.rule.off[what - 6] : NO_SUCH;
        }
    }

    // ---- shelves

    public int keep(int d, int what, int k) {
        Shelf shelf = shelfAt(d);
        if (shelf == null || !within(what, 2)) {
            return NO_SUCH;
        }
        if (what == 0) {
            shelf.clear();
            return 0;
        }
        Judge judge = now.judgeAt(k);
        if (judge == null) {
            return NO_SUCH;
        }
        shelf.holdJudge(judge);
        return 0;
    }

    public int row(int d, int sort, int n) {
        Shelf shelf = shelfAt(d);
        if (shelf == null || !within(sort, SORTS) || n > MOST_ELEMENTS) {
            return NO_SUCH;
        }
        if (n < 0) {
            return BELOW_ZERO;
        }
        shelf.holdRow(sort, n);
        return 0;
    }

    public int put(int d, int i, int v) {
        Shelf shelf = shelfAt(d);
        if (shelf == null) {
            return NO_SUCH;
        }
        int refusal = shelf.refusalAsRow();
        if (refusal != 0) {
            return refusal;
        }
        if (!within(i, shelf.size)) {
            return NO_PLACE;
        }
        shelf.elements[i] = shelf.lowestBits(v);
        return 0;
    }

    public long element(int d, int i) throws IllegalArgumentException, IllegalStateException {
        Shelf shelf = shelfAt(d);
        if (shelf == null) {
            throw new IllegalArgumentException("no such shelf");
        }
        if (shelf.refusalAsRow() != 0 || !within(i, shelf.size)) {
            throw new IllegalStateException("no row or no such place");
        }
        return shelf.elements[i];
    }

    public int copy(int d, int i, int e, int j, int n) {
        Shelf from = shelfAt(d);
        Shelf to = shelfAt(e);
        if (from == null || to == null) {
            return NO_SUCH;
        }
        if (from.holdsNothing() || to.holdsNothing()) {
            return NOTHING_HELD;
        }
        if (from.refusalAsRow() != 0 || to.refusalAsRow() != 0 || from.sort != to.sort) {
            return OTHER_KIND;
        }
        if (!from.hasPlaces(i, n) || !to.hasPlaces(j, n)) {
            return NO_PLACE;
        }
        System.arraycopy(from.elements, i, to.elements, j, n);
        return n;
    }

    public int weight(int d) {
        Shelf shelf = shelfAt(d);
        if (shelf == null) {
            return NO_SUCH;
        }
        return shelf.judge == null ? shelf.refusalAsJudge() : shelf.judge.heft();
    }

    public int toss(int d) {
        Shelf shelf = shelfAt(d);
        if (shelf == null) {
            return NO_SUCH;
        }
        if (shelf.judge == null) {
            return shelf.refusalAsJudge();
        }
        return fails(shelf.judge) ? shelf.judge.failureNumber() : NO_FAILURE;
    }

    // ---- behind the face

    private static boolean within(int value, int size) {
        return value >= 0 && value < size;
    }

    private static boolean holds(int set, int bit) {
        return (set >> bit & 1) != 0;
    }

    private static int partsSeen(int chair, int splash) {
        int parts = 0;
        for (int part = 0; part < PARTS; part++) {
            boolean hidden = part == 5 && splash >= 5;
            if ((part + chair) % 3 != 0 && !hidden) {
                parts |= 1 << part;
            }
        }
        return parts;
    }

    private static int partsSeenFrom(int chairs, int splash) {
        int parts = 0;
        for (int chair = 0; chair < CHAIRS; chair++) {
            if (holds(chairs, chair)) {
                parts |= partsSeen(chair, splash);
            }
        }
        return Integer.bitCount(parts);
    }

    private static boolean isSupposable(int what, int n) {
        switch (what) {
            case 0: return within(n, CHAIRS);
            case 1: return within(n, 10 * MOST_DROPPED + MOST_DROPPED + 1) && n % 10 <= MOST_DROPPED;
            case 2: return n == 0;
            default: return false;
        }
    }

    private static boolean fails(Judge judge) {
        try {
            judge.throwFailure();
            return false;
        } catch (IllegalStateException failure) {
            return true;
        }
    }

    private Shelf shelfAt(int d) {
        return within(d, SHELVES) ? shelves[d] : null;
    }

    private int placeMovedBy(int hall, int diver, int chairs) {
        mind.copyFrom(now);
        mind.moveUp(hall, diver, chairs);
        return mind.placeOf(hall, diver, false);
    }

    // ---- the classes inside

    /** Never changes, so that shelves, the image and what is in mind may share it. */
    private static final class Judge {
        final int number;
        final int kind;
        final int land;
        final int leaning;
        final int partner;

        Judge(int number, int kind, int told) {
            this.number = number;
            this.kind = kind;
            land = told / 100;
            leaning = told / 10 % 10;
            partner = told % 10;
        }

        int leanTo(int diverLand) {
            boolean leansOwn = (kind == OWN || kind == SWAPPING) && diverLand == land;
            boolean leansSwapped = kind == SWAPPING && diverLand == partner;
            return leansOwn || leansSwapped ? leaning : 0;
        }

        /** What comes in is not held to the bounds of marks yet: leans work on what is below 0 too. */
        int markFor(int fair, int diverLand, int drawn) {
            switch (kind) {
                case STEADY: return held(fair - (fair & 1));
                case OWN:
                case SWAPPING: return held(fair + leanTo(diverLand));
                case DRAWN: return held(fair + drawn);
                default: return held(fair);
            }
        }

        int heft() {
            int plain = land + 10;
            switch (kind) {
                case STEADY: return plain + 2;
                case OWN: return plain + leaning;
                case SWAPPING: return plain + leaning + partner;
                case DRAWN: return 2 * plain;
                case MIDDLING: return plain - 5;
                case BLIND: return plain - land;
                case MACHINE: return plain - land + 7;
                default: return plain;
            }
        }

        void throwFailure() {
            boolean leanless = (kind == OWN || kind == SWAPPING) && leaning == 0;
            if (kind != STEADY && !leanless) {
                throw new IllegalStateException("the judge fails");
            }
        }

        int failureNumber() {
            if (kind == SWAPPING) {
                return number + 100 + partner;
            }
            return kind == MACHINE ? number + 200 : number;
        }

        private static int held(int mark) {
            return mark < 0 ? 0 : mark > BEST_MARK ? BEST_MARK : mark;
        }
    }

    private static final class Dive {
        final int[] marks = new int[CHAIRS];
        final int[] markers = new int[CHAIRS];
        int hall;
        int diver;
        int flaws;
        int splash;
        int hard;

        void begin(int hall, int diver, int flaws, int told) {
            this.hall = hall;
            this.diver = diver;
            this.flaws = flaws;
            splash = told / 10 % 10;
            hard = told / 100;
            for (int chair = 0; chair < CHAIRS; chair++) {
                tell(chair, MISSING, NOBODY);
            }
        }

        void copyFrom(Dive other) {
            hall = other.hall;
            diver = other.diver;
            flaws = other.flaws;
            splash = other.splash;
            hard = other.hard;
            System.arraycopy(other.marks, 0, marks, 0, CHAIRS);
            System.arraycopy(other.markers, 0, markers, 0, CHAIRS);
        }

        void tell(int chair, int mark, int marker) {
            if (within(chair, CHAIRS)) {
                marks[chair] = mark;
                markers[chair] = mark == MISSING ? NOBODY : marker;
            }
        }

        boolean hasMark(int chair) {
            return within(chair, CHAIRS) && marks[chair] != MISSING;
        }

        int marksThere() {
            int there = 0;
            for (int chair = 0; chair < CHAIRS; chair++) {
                if (marks[chair] != MISSING) {
                    there++;
                }
            }
            return there;
        }

        /** A judge is on one chair of a hall at most, and all marks of a dive are told at once. */
        int markBy(int judge) {
            for (int chair = 0; chair < CHAIRS; chair++) {
                if (markers[chair] == judge) {
                    return marks[chair];
                }
            }
            return MISSING;
        }
    }

    /** Marks in order, from the lowest on. */
    private static final class Panel {
        private final int[] sorted = new int[CHAIRS];
        int size;

        void gather(Dive dive) {
            size = 0;
            for (int chair = 0; chair < CHAIRS; chair++) {
                if (dive.hasMark(chair)) {
                    add(dive.marks[chair]);
                }
            }
        }

        void add(int mark) {
            if (size >= CHAIRS) {
                return;
            }
            int at = size;
            for (; at > 0 && sorted[at - 1] > mark; at--) {
                sorted[at] = sorted[at - 1];
            }
            sorted[at] = mark;
            size++;
        }

        int lowest() {
            return size > 0 ? sorted[0] : 0;
        }

        int highest() {
            return size > 0 ? sorted[size - 1] : 0;
        }

        int middle() {
            return size > 0 ? sorted[size / 2] : 0;
        }

        int sumBetween(int dropLowest, int dropHighest) {
            int sum = 0;
            for (int at = dropLowest; at < size - dropHighest; at++) {
                sum += sorted[at];
            }
            return sum;
        }
    }

    /**
     * What is off, what is dropped, and the sum that counts. In the code of the sum numbers stand as they are
     * and letters and signs below 0, each sign behind the two things on which it works: so it is read once only.
     */
    private static final class Rule {
        final int[] off = new int[PARTS];
        int dropHighest = 1;
        int dropLowest = 1;
        private final int[] code = new int[MOST_ELEMENTS];
        private int length;
        private final int[] stack = new int[MOST_ELEMENTS];

        Rule() {
            for (int part = 0; part < PARTS; part++) {
                off[part] = 2;
            }
            append(-'s');
            append(-'h');
            append(-'*');
            append(10);
            append(-'/');
        }

        void copyFrom(Rule other) {
            System.arraycopy(other.off, 0, off, 0, PARTS);
            dropHighest = other.dropHighest;
            dropLowest = other.dropLowest;
            System.arraycopy(other.code, 0, code, 0, MOST_ELEMENTS);
            length = other.length;
        }

        void forgetSum() {
            length = 0;
        }

        void append(int sign) {
            if (length < MOST_ELEMENTS) {
                code[length] = sign;
                length++;
            }
        }

        int offFor(int flaws) {
            int sum = 0;
            for (int part = 0; part < PARTS; part++) {
                if ((flaws >> part & 1) != 0) {
                    sum += off[part];
                }
            }
            return sum;
        }

        int countFor(Panel panel, Dive dive) {
            if (panel.size < dropHighest + dropLowest + 1) {
                return 0;
            }
            int top = 0;
            for (int at = 0; at < length; at++) {
                int sign = code[at];
                if (!isWorking(-sign)) {
                    if (top < MOST_ELEMENTS) {
                        stack[top] = sign >= 0 ? sign : fieldOf(-sign, panel, dive);
                        top++;
                    }
                } else if (top >= 2) {
                    top--;
                    stack[top - 1] = worked(-sign, stack[top - 1], stack[top]);
                }
            }
            return stack[0];
        }

        private static boolean isWorking(int sign) {
            switch (sign) {
                case '+':
                case '-':
                case '*':
                case '/':
                case '[':
                case '{': return true;
                default: return false;
            }
        }

        private static int worked(int sign, int left, int right) {
            switch (sign) {
                case '+': return left + right;
                case '-': return left - right;
                case '*': return left * right;
                case '/': return right == 0 ? 0 : left / right;
                case '[': return Math.min(left, right);
                default: return Math.max(left, right);
            }
        }

        private int fieldOf(int letter, Panel panel, Dive dive) {
            switch (letter) {
                case 's': return panel.sumBetween(dropLowest, dropHighest);
                case 'n': return panel.size - dropLowest - dropHighest;
                case 'h': return dive.hard;
                case 'm': return panel.middle();
                case 'a': return panel.highest();
                case 'z': return panel.lowest();
                default: return dive.splash;
            }
        }
    }

    /** Takes a byte only if a rule can go on with it, so that the place of a fault is where it stops. */
    private static final class RuleReader {
        private static final int TEXT_END = 1000;
        private static final int DEEPEST = 6;
        private static final int MOST_DIGITS = 3;

        final Rule draft = new Rule();
        private int[] text = new int[0];
        private int size;
        private int at;
        private boolean stopped;
        private int firstWrong;

        int read(Shelf shelf, Rule before) {
            draft.copyFrom(before);
            text = shelf.elements;
            size = Math.min(shelf.size, text.length);
            at = 0;
            stopped = false;
            firstWrong = NONE;
            int statements = 0;
            for (; statements <= MOST_ELEMENTS && !stopped && (at < size || statements == 0); statements++) {
                readStatement();
            }
            if (stopped) {
                return -1000 - at;
            }
            return firstWrong >= 0 ? -2000 - firstWrong : statements;
        }

        private void readStatement() {
            int place = at;
            switch (next()) {
                case 'o':
                    at++;
                    readOff(place);
                    break;
                case 'd':
                    at++;
                    readDropped(place);
                    break;
                case 'f':
                    at++;
                    draft.forgetSum();
                    readSum(0);
                    break;
                default:
                    stopped = true;
                    break;
            }
            expect(';');
        }

        private void readOff(int place) {
            int part = readNumber();
            expect(' ');
            int off = readNumber();
            if (within(part, PARTS) && off <= MOST_OFF) {
                draft.off[part] = off;
            } else {
                wrongAt(place);
            }
        }

        private void readDropped(int place) {
            int highest = readNumber();
            expect(' ');
            int lowest = readNumber();
            if (highest <= MOST_DROPPED && lowest <= MOST_DROPPED) {
                draft.dropHighest = highest;
                draft.dropLowest = lowest;
            } else {
                wrongAt(place);
            }
        }

        private void wrongAt(int place) {
            if (firstWrong < 0) {
                firstWrong = place;
            }
        }

        private void readSum(int depth) {
            readProduct(depth);
            for (int more = 0; more < MOST_ELEMENTS && !stopped && (next() == '+' || next() == '-'); more++) {
                int sign = next();
                at++;
                readProduct(depth);
                draft.append(-sign);
            }
        }

        private void readProduct(int depth) {
            readAtom(depth);
            for (int more = 0; more < MOST_ELEMENTS && !stopped && (next() == '*' || next() == '/'); more++) {
                int sign = next();
                at++;
                readAtom(depth);
                draft.append(-sign);
            }
        }

        private void readAtom(int depth) {
            int sign = next();
            switch (sign) {
                case '[':
                    readBrackets(sign, ']', depth + 1);
                    break;
                case '{':
                    readBrackets(sign, '}', depth + 1);
                    break;
                case '(':
                    readBrackets(sign, ')', depth + 1);
                    break;
                case 's':
                case 'n':
                case 'h':
                case 'm':
                case 'a':
                case 'z':
                case 'p':
                    at++;
                    draft.append(-sign);
                    break;
                default:
                    draft.append(readNumber());
                    break;
            }
        }

        private void readBrackets(int opening, int closing, int depth) {
            if (stopped || depth > DEEPEST) {
                stopped = true;
                return;
            }
            at++;
            readSum(depth);
            if (opening != '(') {
                expect(',');
                if (!stopped) {
                    readSum(depth);
                    draft.append(-opening);
                }
            }
            expect(closing);
        }

        private int readNumber() {
            int value = 0;
            int digits = 0;
            for (; digits < MOST_DIGITS && (digits == 0 || value > 0) && isAtDigit(); digits++) {
                value = 10 * value + text[at] - '0';
                at++;
            }
            stopped = stopped || digits == 0;
            return value;
        }

        private void expect(int sign) {
            stopped = stopped || at >= size || text[at] != sign;
            if (!stopped) {
                at++;
            }
        }

        private boolean isAtDigit() {
            return !stopped && at < size && text[at] >= '0' && text[at] <= '9';
        }

        private int next() {
            return at < size ? text[at] : TEXT_END;
        }
    }

    private static final class Tally {
        int sum;
        int many;
        int least;
        int greatest;
        int distance;

        void start() {
            sum = 0;
            many = 0;
            least = 0;
            greatest = 0;
            distance = 0;
        }

        void take(int difference) {
            least = many == 0 ? difference : Math.min(least, difference);
            greatest = many == 0 ? difference : Math.max(greatest, difference);
            sum += difference;
            distance += Math.abs(difference);
            many++;
        }
    }

    /** All that an image holds, and what can be asked of it. */
    private static final class State {
        final int[] lands = new int[DIVERS];
        final int[] names = new int[DIVERS];
        final int[] years = new int[HALLS];
        final int[] seats = new int[HALLS * CHAIRS];
        final Rule rule = new Rule();
        int divers;
        int judges;
        int dives;
        private final Judge[] judgesMade = new Judge[JUDGES];
        private final Dive[] divesMade = new Dive[DIVES];

        // Made once and filled by each question anew.
        final long[] totals = new long[DIVERS];
        final Panel panel = new Panel();

        State() {
            for (int seat = 0; seat < HALLS * CHAIRS; seat++) {
                seats[seat] = NOBODY;
            }
            for (int dive = 0; dive < DIVES; dive++) {
                divesMade[dive] = new Dive();
            }
        }

        void copyFrom(State other) {
            System.arraycopy(other.lands, 0, lands, 0, DIVERS);
            System.arraycopy(other.names, 0, names, 0, DIVERS);
            System.arraycopy(other.years, 0, years, 0, HALLS);
            System.arraycopy(other.seats, 0, seats, 0, HALLS * CHAIRS);
            rule.copyFrom(other.rule);
            divers = other.divers;
            judges = other.judges;
            dives = other.dives;
            for (int judge = 0; judge < JUDGES; judge++) {
                judgesMade[judge] = other.judgesMade[judge];
            }
            for (int dive = 0; dive < dives; dive++) {
                divesMade[dive].copyFrom(other.divesMade[dive]);
            }
        }

        int addDiver(int land, int name) {
            if (!within(divers, DIVERS)) {
                return NO_ROOM;
            }
            lands[divers] = land;
            names[divers] = name;
            divers++;
            return divers - 1;
        }

        int addJudge(int kind, int told) {
            if (!within(judges, JUDGES)) {
                return NO_ROOM;
            }
            judgesMade[judges] = new Judge(judges, kind, told);
            judges++;
            return judges - 1;
        }

        int addDive(int hall, int diver, int flaws, int told) {
            if (!within(dives, DIVES)) {
                return NO_ROOM;
            }
            divesMade[dives].begin(hall, diver, flaws, told);
            dives++;
            return dives - 1;
        }

        Judge judgeAt(int number) {
            return within(number, judges) ? judgesMade[number] : null;
        }

        Dive diveAt(int number) {
            return within(number, dives) ? divesMade[number] : null;
        }

        int landOf(Dive dive) {
            return within(dive.diver, divers) ? lands[dive.diver] : NONE;
        }

        int seatOf(int hall, int chair) {
            return within(hall, HALLS) && within(chair, CHAIRS) ? seats[hall * CHAIRS + chair] : NOBODY;
        }

        boolean isOnOtherChair(int hall, int chair, int judge) {
            for (int other = 0; other < CHAIRS; other++) {
                if (judge != NOBODY && other != chair && seatOf(hall, other) == judge) {
                    return true;
                }
            }
            return false;
        }

        int seatsTaken() {
            int taken = 0;
            for (int seat = 0; seat < HALLS * CHAIRS; seat++) {
                if (seats[seat] != NOBODY) {
                    taken++;
                }
            }
            return taken;
        }

        int hallsOf(int judge) {
            int halls = 0;
            for (int seat = 0; seat < HALLS * CHAIRS; seat++) {
                if (seats[seat] == judge) {
                    halls |= 1 << seat / CHAIRS;
                }
            }
            return halls;
        }

        int marksThere() {
            int there = 0;
            for (int dive = 0; dive < dives; dive++) {
                there += divesMade[dive].marksThere();
            }
            return there;
        }

        int sumOfMarks() {
            int sum = 0;
            for (int dive = 0; dive < dives; dive++) {
                panel.gather(divesMade[dive]);
                sum += panel.sumBetween(0, 0);
            }
            return sum;
        }

        int worthOf(Dive dive) {
            return Math.max(0, BEST_MARK - rule.offFor(dive.flaws));
        }

        int countOf(Dive dive) {
            panel.gather(dive);
            return rule.countFor(panel, dive);
        }

        int wouldMark(int number, int chair) {
            Dive dive = diveAt(number);
            if (dive == null) {
                return NONE;
            }
            Judge judge = judgeAt(seatOf(dive.hall, chair));
            if (judge == null) {
                return NONE;
            }
            if (judge.kind == MIDDLING) {
                gatherOthers(number, dive);
                if (panel.size > 0) {
                    return panel.middle();
                }
            }
            return markOf(judge, number, dive, chair);
        }

        private void gatherOthers(int number, Dive dive) {
            panel.size = 0;
            for (int chair = 0; chair < CHAIRS; chair++) {
                Judge other = judgeAt(seatOf(dive.hall, chair));
                if (other != null && other.kind != MIDDLING) {
                    panel.add(markOf(other, number, dive, chair));
                }
            }
        }

        private int markOf(Judge judge, int number, Dive dive, int chair) {
            int parts = judge.kind == MACHINE ? MACHINE_PARTS : partsSeen(chair, dive.splash);
            int fair = BEST_MARK - rule.offFor(dive.flaws & parts);
            int drawn = judge.kind == DRAWN ? drawnBy(number, dive) : 0;
            return judge.markFor(fair, landOf(dive), drawn);
        }

        private int drawnBy(int number, Dive dive) {
            int drawn = within(dive.diver, divers) ? names[dive.diver] / 2 : 0;
            for (int ahead = Math.min(number, dives) - 1; ahead >= 0; ahead--) {
                if (divesMade[ahead].hall == dive.hall) {
                    boolean good = rule.offFor(divesMade[ahead].flaws) <= BEST_MARK - GOOD_WORTH;
                    return good ? drawn + 1 : drawn;
                }
            }
            return drawn;
        }

        int markDive(int number) {
            Dive dive = diveAt(number);
            if (dive == null) {
                return 0;
            }
            for (int chair = 0; chair < CHAIRS; chair++) {
                int mark = wouldMark(number, chair);
                dive.tell(chair, mark == NONE ? MISSING : mark, seatOf(dive.hall, chair));
            }
            return dive.marksThere();
        }

        /** Answers, as bits, which divers have dives there: the totals of others say nothing. */
        int addUp(int hall, boolean byWorth) {
            for (int diver = 0; diver < DIVERS; diver++) {
                totals[diver] = 0;
            }
            int there = 0;
            for (int number = 0; number < dives; number++) {
                Dive dive = divesMade[number];
                if (dive.hall == hall && within(dive.diver, DIVERS)) {
                    totals[dive.diver] += byWorth ? worthOf(dive) * dive.hard : countOf(dive);
                    there |= 1 << dive.diver;
                }
            }
            return there;
        }

        int placeOf(int hall, int diver, boolean byWorth) {
            int there = addUp(hall, byWorth);
            if (!within(diver, DIVERS) || !holds(there, diver)) {
                return NONE;
            }
            int place = 1;
            for (int other = 0; other < DIVERS; other++) {
                if (holds(there, other) && totals[other] > totals[diver]) {
                    place++;
                }
            }
            return place;
        }

        int winner(int hall) {
            int there = addUp(hall, false);
            int best = NONE;
            for (int diver = 0; diver < DIVERS; diver++) {
                if (holds(there, diver) && (best < 0 || totals[diver] > totals[best])) {
                    best = diver;
                }
            }
            return best;
        }

        void takeChairOff(int chair) {
            for (int dive = 0; dive < dives; dive++) {
                divesMade[dive].tell(chair, MISSING, NOBODY);
            }
        }

        void takeLeansOff() {
            for (int number = 0; number < dives; number++) {
                Dive dive = divesMade[number];
                for (int chair = 0; chair < CHAIRS; chair++) {
                    Judge judge = judgeAt(dive.markers[chair]);
                    if (judge != null && dive.hasMark(chair)) {
                        dive.marks[chair] = Math.max(0, dive.marks[chair] - judge.leanTo(landOf(dive)));
                    }
                }
            }
        }

        void moveUp(int hall, int diver, int chairs) {
            for (int number = 0; number < dives; number++) {
                Dive dive = divesMade[number];
                for (int chair = 0; chair < CHAIRS; chair++) {
                    if (dive.hall == hall && holds(chairs, chair) && dive.hasMark(chair)) {
                        dive.marks[chair] = dive.diver == diver ? BEST_MARK : 0;
                    }
                }
            }
        }

        void tallyUp(Tally tally, int judge, int land) {
            tally.start();
            for (int number = 0; number < dives; number++) {
                Dive dive = divesMade[number];
                int mark = dive.markBy(judge);
                if (mark != MISSING && (land == ANY_LAND || landOf(dive) == land)) {
                    panel.gather(dive);
                    tally.take(mark - panel.middle());
                }
            }
        }

        /** In hundredths; below 0 only if the judge has no marks of that year. */
        int meanOf(int judge, int year) {
            int sum = 0;
            int many = 0;
            for (int number = 0; number < dives; number++) {
                Dive dive = divesMade[number];
                int mark = dive.markBy(judge);
                if (mark != MISSING && within(dive.hall, HALLS) && years[dive.hall] == year) {
                    sum += mark;
                    many++;
                }
            }
            return many == 0 ? NONE : sum * 100 / many;
        }

        int flawAnew(int hall, int seed) {
            int next = seed;
            for (int number = 0; number < dives; number++) {
                Dive dive = divesMade[number];
                if (dive.hall == hall) {
                    next = next * 1103515245 + 12345;
                    dive.flaws = (next & 0x7fffffff) / 65536 % FLAW_SETS;
                }
            }
            return next;
        }

        boolean isRight(int hall) {
            for (int number = 0; number < dives; number++) {
                if (divesMade[number].hall == hall) {
                    markDive(number);
                }
            }
            return placeOf(hall, winner(hall), true) == 1;
        }
    }

    /** Things dealt to places in all ways; every two places with what they got add to the worth of a way. */
    private abstract static class Dealing {
        private final int[] dealt = new int[MOST_DEALT];
        private int wanted;
        int size;

        abstract int between(int place, int thing, int laterPlace, int laterThing);

        int asItStands() {
            int sum = 0;
            for (int later = 1; later < size; later++) {
                for (int place = 0; place < later; place++) {
                    sum += between(place, place, later, later);
                }
            }
            return sum;
        }

        int allWays() {
            int ways = 1;
            for (int factor = 2; factor <= size && factor <= MOST_DEALT; factor++) {
                ways *= factor;
            }
            return ways;
        }

        int waysAsGood() {
            wanted = asItStands();
            return waysFrom(0, 0, 0);
        }

        private int waysFrom(int place, int taken, int sum) {
            if (place >= size || !within(place, MOST_DEALT)) {
                return sum >= wanted ? 1 : 0;
            }
            int ways = 0;
            for (int thing = 0; thing < size; thing++) {
                if (!holds(taken, thing)) {
                    dealt[place] = thing;
                    ways += waysFrom(place + 1, taken | 1 << thing, sum + gainAt(place));
                }
            }
            return ways;
        }

        private int gainAt(int later) {
            int gain = 0;
            for (int place = 0; place < later; place++) {
                gain += between(place, dealt[place], later, dealt[later]);
            }
            return gain;
        }
    }

    private static final class OrderDealing extends Dealing {
        private final int[] counted = new int[DIVES];

        void takeFrom(State state, int hall) {
            size = 0;
            for (int number = 0; number < state.dives; number++) {
                Dive dive = state.diveAt(number);
                if (dive != null && dive.hall == hall && within(size, DIVES)) {
                    counted[size] = state.countOf(dive);
                    size++;
                }
            }
        }

        int between(int place, int thing, int laterPlace, int laterThing) {
            if (!within(thing, DIVES) || !within(laterThing, DIVES)) {
                return 0;
            }
            int first = counted[thing];
            int second = counted[laterThing];
            return second > first ? 1 : second < first ? -1 : 0;
        }
    }

    private static final class LandDealing extends Dealing {
        private final int[] lands = new int[JUDGES];
        private final int[] halls = new int[JUDGES];
        private final int[] leans = new int[JUDGES * LANDS];

        void takeFrom(State state) {
            size = state.judges;
            for (int number = 0; number < JUDGES; number++) {
                Judge judge = state.judgeAt(number);
                lands[number] = judge == null ? NONE : judge.land;
                halls[number] = state.hallsOf(number);
            }
            for (int at = 0; at < JUDGES * LANDS; at++) {
                leans[at] = 0;
            }
            for (int number = 0; number < state.dives; number++) {
                Dive dive = state.diveAt(number);
                if (dive != null) {
                    state.panel.gather(dive);
                    addLeans(dive, state.landOf(dive), state.panel.middle());
                }
            }
        }

        private void addLeans(Dive dive, int land, int middle) {
            for (int chair = 0; chair < CHAIRS; chair++) {
                int judge = dive.markers[chair];
                if (within(judge, JUDGES) && within(land, LANDS)) {
                    leans[judge * LANDS + land] += dive.marks[chair] - middle;
                }
            }
        }

        private boolean leansTo(int judge, int land) {
            return within(judge, JUDGES) && within(land, LANDS) && leans[judge * LANDS + land] > 0;
        }

        int between(int place, int thing, int laterPlace, int laterThing) {
            if (!within(thing, JUDGES) || !within(laterThing, JUDGES)
                    || !within(place, JUDGES) || !within(laterPlace, JUDGES)) {
                return 0;
            }
            int land = lands[thing];
            int laterLand = lands[laterThing];
            boolean apart = (halls[place] & halls[laterPlace]) == 0;
            boolean swapped = leansTo(place, laterLand) && leansTo(laterPlace, land);
            return apart && land != laterLand && swapped ? 1 : 0;
        }
    }

    private static final class Shelf {
        private static final int BYTES = 0;
        private static final int SHORTS = 1;

        final int[] elements = new int[MOST_ELEMENTS];
        Judge judge;
        int sort;
        int size;
        private boolean isRow;

        void clear() {
            judge = null;
            isRow = false;
            size = 0;
        }

        void holdJudge(Judge held) {
            clear();
            judge = held;
        }

        void holdRow(int sort, int size) {
            clear();
            isRow = true;
            this.sort = sort;
            this.size = size;
            for (int i = 0; i < MOST_ELEMENTS; i++) {
                elements[i] = 0;
            }
        }

        boolean holdsNothing() {
            return judge == null && !isRow;
        }

        int refusalAsRow() {
            if (isRow) {
                return 0;
            }
            return judge == null ? NOTHING_HELD : OTHER_KIND;
        }

        int refusalAsText() {
            return isRow && sort != BYTES ? OTHER_KIND : refusalAsRow();
        }

        int refusalAsJudge() {
            return isRow ? OTHER_KIND : NOTHING_HELD;
        }

        boolean hasPlaces(int from, int many) {
            return many >= 0 && from >= 0 && from <= size && many <= size - from;
        }

        boolean holdsMarks() {
            boolean fits = size <= CHAIRS;
            for (int i = 0; i < size && fits; i++) {
                fits = elements[i] == MISSING || within(elements[i], BEST_MARK + 1);
            }
            return fits;
        }

        int lowestBits(int v) {
            if (sort == BYTES) {
                return (byte) v;
            }
            return sort == SHORTS ? (short) v : v;
        }
    }
}
