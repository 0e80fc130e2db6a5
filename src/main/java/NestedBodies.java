/**
 * Bodies from families of joined sets: see DOC.md for what every call promises.
 *
 * A set of POINTS is an int (bit p: POINT p). A set of such sets is an int, too (bit s: set s), since
 * there are five POINTS at most; so THE FAMILY, a NEST and a CORNER are one number each.
 */
public final class NestedBodies {
    public static final int NONE = -1, BAD = -2, STATE = -3, FULL = -4;
    public static final long NO = Long.MIN_VALUE;

    private static final int NO_MORE = -5, FAULT = -10;
    private static final int NOTHING = -11, CAST = -12, PLACE = -13, SIZE = -14;
    private static final int ENDED = 100;

    private static final int LEAST_POINTS = 2, MOST_POINTS = 5, FIRST_POINTS = 4;
    private static final int MOST_CORNERS = 120, MOST_IN_NEST = 4;
    private static final int BARE = 0, PATH = 1, RING = 2, ALL = 3, STAR = 4, CHAIN = 5, LINED = 6;
    private static final int KINDS = 7;
    private static final int COMING = 0, GOING = 1, MAKING = 2, LINING = 3;
    private static final int MOST_SEEN = 4, MOST_SEEN_COUNT = 999, MOST_EVENTS = 8, MOST_BOOK = 8;
    private static final int MOST_LINE_CODE = 99;
    private static final int MOST_SIGNS = 100, MOST_SIGN = 127, MOST_CLAUSES = 12;
    private static final int TAPES = 6, MOST_ITEMS = 60;
    private static final int VOID = -1, BYTES = 0, SHORTS = 1, INTS = 2, BOOLEANS = 4;
    /** What a CORNER stands AT is 16 at most, so five bits hold it. */
    private static final int AT_BITS = 5, AT_MASK = 31;

    private static final int LONG_BITS = 64;

    /** Entry p: all sets that have POINT p. */
    private static final int[] HAVING = {0xAAAAAAAA, 0xCCCCCCCC, 0xF0F0F0F0, 0xFF00FF00, 0xFFFF0000};
    private static final int[] TENS = {1, 10, 100, 1000, 10000};

    private final Setup live = new Setup();
    private final Setup kept = new Setup();
    private boolean imaged;
    private final Body body = new Body(live.family);
    /** What EVENTS and FITS are tried out on, so that asking changes nothing. */
    private final Family trial = new Family();
    private final Body trialBody = new Body(trial);
    private final Text text = new Text();
    private final Tape[] tapes = new Tape[TAPES];

    public NestedBodies() {
        for (int t = 0; t < tapes.length; t++) {
            tapes[t] = new Tape();
        }
    }

    // ---- the family

    public int points(int n) {
        if (n < LEAST_POINTS || n > MOST_POINTS) {
            return BAD;
        }
        int before = live.family.points;
        live.family.restart(n);
        live.picked.empty();
        return before;
    }

    public int make(int kind) {
        if (!isKind(kind)) {
            return NONE;
        }
        live.family.build(kind);
        live.picked.empty();
        return live.family.size();
    }

    public int comes(int set) {
        if (!live.family.isSet(set)) {
            return NONE;
        }
        if (!live.family.holds(set)) {
            live.family.join(set);
            live.picked.empty();
        }
        return live.family.size();
    }

    public int goes(int set) {
        if (!live.family.holds(set)) {
            return NONE;
        }
        if (!live.family.canLose(set)) {
            return STATE;
        }
        live.family.lose(set);
        live.picked.empty();
        return live.family.size();
    }

    public int line(int a, int b, int is) {
        if (!live.family.isPair(a, b)) {
            return NONE;
        }
        if (is != 0 && is != 1) {
            return BAD;
        }
        int before = live.family.isLined(a, b) ? 1 : 0;
        if (before != is) {
            live.family.turnLine(a, b);
        }
        return before;
    }

    public int choose(int set) {
        if (!live.family.isFace(set)) {
            return NONE;
        }
        int nest = live.pickedNest();
        if ((nest >>> set & 1) != 0 || live.picked.isFull() || !live.family.nestTakes(nest, set)) {
            return STATE;
        }
        return live.picked.put(set, 0);
    }

    public int drop(int set) {
        int row = live.picked.find(set);
        return row < 0 ? NONE : live.picked.remove(row);
    }

    public int feed(int sign) {
        if (sign < 0 || sign > MOST_SIGN) {
            return BAD;
        }
        return text.isFull() ? FULL : text.put(sign);
    }

    public int read() {
        int fault = text.fault();
        int answer = fault < 0 ? doClauses() : FAULT - fault;
        text.empty();
        return answer;
    }

    // ---- what is told

    public int family(int i) {
        return i < 0 ? NONE : nthOf(live.family.sets, i);
    }

    public int of(int set, int what) {
        if (!live.family.isSet(set)) {
            return NONE;
        }
        switch (what) {
            case 0:
                return live.family.holds(set) ? 1 : 0;
            case 1:
                return Integer.bitCount(live.family.sets & within(set));
            case 2:
                return Integer.bitCount(live.family.partsOf(set));
            case 3:
                return Integer.bitCount(set);
            default:
                return NONE;
        }
    }

    public int part(int set, int k) {
        if (!live.family.isSet(set) || k < 0) {
            return NONE;
        }
        return nthOf(live.family.partsOf(set), k);
    }

    public int told(int what) {
        switch (what) {
            case 0:
                return live.family.points;
            case 1:
                return live.family.size();
            case 2:
                return body.cornerCount();
            case 3:
                return body.greatestSteps();
            case 4:
                return live.family.lineCount();
            case 5:
                return live.picked.size;
            case 6:
                return body.countOn(live.pickedNest());
            case 7:
                return body.firstOn(live.pickedNest());
            default:
                return NONE;
        }
    }

    public int chosen(int i) {
        if (i < 0) {
            return NONE;
        }
        return i < live.picked.size ? live.picked.firstAt(i) : NO_MORE;
    }

    // ---- nests, corners

    public int nests(int k) {
        return isSize(k) ? body.nestCount(k) : BAD;
    }

    public int risen(int k) {
        return isSize(k) ? body.countRisen(k) : BAD;
    }

    public int at(int corner, int point) {
        if (!body.isCorner(corner) || !live.family.isPoint(point)) {
            return NONE;
        }
        return body.standsAt(corner, point);
    }

    public int set(int corner, int k) {
        if (!body.isCorner(corner) || !isInCorner(k)) {
            return NONE;
        }
        return nthOf(body.nestOf(corner), k);
    }

    public int flip(int corner, int k) {
        if (!body.isCorner(corner) || !isInCorner(k)) {
            return NONE;
        }
        return body.flipOf(corner, k);
    }

    public int corner(int corner, int what) {
        if (!body.isCorner(corner)) {
            return NONE;
        }
        switch (what) {
            case 0:
                return body.risesOf(corner);
            case 1:
                return body.ordersTo(corner);
            case 2:
                return body.worthOf(corner);
            default:
                return NONE;
        }
    }

    public int steps(int one, int other) {
        if (!body.isCorner(one) || !body.isCorner(other)) {
            return NONE;
        }
        return body.stepsBetween(one, other);
    }

    public int face(int set, int what) {
        if (!live.family.isFace(set)) {
            return NONE;
        }
        switch (what) {
            case 0:
                return body.countOn(1 << set);
            case 1:
                return body.firstOn(1 << set);
            case 2:
                return body.leastOver(set);
            default:
                return NONE;
        }
    }

    public int leads(int order) {
        int place = live.family.placeByOrder(order);
        return place < 0 ? BAD : body.cornerAt(place);
    }

    // ---- seen, odds

    public int see(int k, int n) {
        if (k == -1) {
            return live.seen.empty();
        }
        if (k < 0 || k > MOST_IN_NEST) {
            return NONE;
        }
        if (n < 0 || n > MOST_SEEN_COUNT) {
            return BAD;
        }
        return live.seen.isFull() ? FULL : live.seen.put(k, n);
    }

    public int fits() {
        int kinds = 0;
        trial.copy(live.family);
        for (int kind = 0; kind < KINDS; kind++) {
            trial.build(kind);
            if (allSeenIn(trialBody)) {
                kinds |= 1 << kind;
            }
        }
        return kinds;
    }

    public long odds(int corner, int part) {
        if (!body.isCorner(corner) || !isFractionPart(part)) {
            return NO;
        }
        return fraction(body.ordersTo(corner), live.family.orderCount(), part);
    }

    public long mean(int point, int part) {
        if (!live.family.isPoint(point) || !isFractionPart(part)) {
            return NO;
        }
        return fraction(body.sumAt(point), body.cornerCount(), part);
    }

    // ---- events, books

    public int event(int what, int n) {
        if (what == -1) {
            return live.events.empty();
        }
        switch (what) {
            case COMING:
            case GOING:
                if (!live.family.isSet(n)) {
                    return NONE;
                }
                break;
            case MAKING:
                if (!isKind(n)) {
                    return NONE;
                }
                break;
            case LINING:
                if (n < 0 || n > MOST_LINE_CODE) {
                    return BAD;
                }
                break;
            default:
                return NONE;
        }
        return live.events.isFull() ? FULL : live.events.put(what, n);
    }

    public int after(int what) {
        if (what < 0 || what > 2) {
            return NONE;
        }
        trial.copy(live.family);
        for (int row = 0; row < live.events.size; row++) {
            happen(trial, live.events.firstAt(row), live.events.secondAt(row));
        }
        if (what == 0) {
            return trial.size();
        }
        return what == 1 ? trialBody.cornerCount() : trialBody.greatestSteps();
    }

    public int book(int set, int is) {
        if (set == -1) {
            return live.book.empty();
        }
        if (!live.family.isSet(set)) {
            return NONE;
        }
        if (is != 0 && is != 1) {
            return BAD;
        }
        return live.book.isFull() ? FULL : live.book.put(set, is);
    }

    public int looked() {
        for (int row = 0; row < live.book.size; row++) {
            boolean booked = live.book.secondAt(row) == 1;
            if (live.family.holds(live.book.firstAt(row)) != booked) {
                return row;
            }
        }
        return NO_MORE;
    }

    // ---- judging, the image, tapes

    public int judge(int tape, int i) {
        Tape row = tapeAt(tape);
        if (row == null) {
            return NONE;
        }
        if (row.sort != VOID && row.sort != SHORTS) {
            return CAST;
        }
        int looked = 0;
        for (int set = 1; set <= live.family.whole(); set++) {
            if (!live.family.holds(set)) {
                continue;
            }
            if (!row.hasRun(i, looked + 1)) {
                return ENDED + looked;
            }
            if (row.get(i + looked) != set) {
                return looked;
            }
            looked++;
        }
        return NO_MORE;
    }

    public int image() {
        kept.copy(live);
        imaged = true;
        return live.family.size();
    }

    public int undo() {
        if (!imaged) {
            return STATE;
        }
        live.copy(kept);
        return live.family.size();
    }

    public int count(int what) {
        switch (what) {
            case 0:
                return live.seen.size;
            case 1:
                return live.events.size;
            case 2:
                return live.book.size;
            case 3:
                return text.size;
            default:
                return BAD;
        }
    }

    public int tape(int tape, int sort, int n) {
        Tape row = tapeAt(tape);
        if (row == null) {
            return NONE;
        }
        if (sort == VOID) {
            row.hold(VOID, 0);
            return 1;
        }
        if (sort < BYTES || sort > BOOLEANS || n > MOST_ITEMS) {
            return BAD;
        }
        if (n < 0) {
            return SIZE;
        }
        row.hold(sort, n);
        return 1;
    }

    public int item(int tape, int i, long v) {
        Tape row = tapeAt(tape);
        if (row == null) {
            return NONE;
        }
        if (row.sort == VOID) {
            return NOTHING;
        }
        if (!row.hasRun(i, 1)) {
            return PLACE;
        }
        row.put(i, v);
        return 1;
    }

    public long peek(int tape, int i) {
        Tape row = tapeAt(tape);
        return row == null || !row.hasRun(i, 1) ? NO : row.get(i);
    }

    public int shift(int tape, int i, int other, int j, int n) {
        Tape from = tapeAt(tape);
        Tape to = tapeAt(other);
        if (from == null || to == null) {
            return NONE;
        }
        if (from.sort == VOID || to.sort == VOID) {
            return NOTHING;
        }
        if (from.sort != to.sort) {
            return CAST;
        }
        if (!from.hasRun(i, n) || !to.hasRun(j, n)) {
            return PLACE;
        }
        System.arraycopy(from.items, i, to.items, j, n);
        return n;
    }

    // ---- help for the calls

    private static boolean isKind(int kind) {
        return kind >= 0 && kind < KINDS;
    }

    private static boolean isFractionPart(int part) {
        return part == 0 || part == 1;
    }

    private boolean isSize(int k) {
        return k >= 0 && k < live.family.points;
    }

    private boolean isInCorner(int k) {
        return k >= 0 && k < live.family.points - 1;
    }

    private Tape tapeAt(int tape) {
        return tape >= 0 && tape < tapes.length ? tapes[tape] : null;
    }

    private boolean allSeenIn(Body made) {
        for (int row = 0; row < live.seen.size; row++) {
            if (made.nestCount(live.seen.firstAt(row)) != live.seen.secondAt(row)) {
                return false;
            }
        }
        return true;
    }

    private static void happen(Family family, int what, int n) {
        if (what == COMING && family.isSet(n)) {
            family.join(n);
        } else if (what == GOING && family.holds(n) && family.canLose(n)) {
            family.lose(n);
        } else if (what == MAKING && isKind(n)) {
            family.build(n);
        } else if (what == LINING && family.isPair(n / 10, n % 10)) {
            family.turnLine(n / 10, n % 10);
        }
    }

    /** Does THE TEXT's CLAUSES, which are without FAULT: how many weren't refused. */
    private int doClauses() {
        int done = 0;
        int from = 0;
        for (int end = 1; end <= text.size; end++) {
            if (end == text.size || text.signAt(end) == ';') {
                done += isDone(from, end) ? 1 : 0;
                from = end + 1;
            }
        }
        return done;
    }

    private boolean isDone(int from, int end) {
        int digit = text.digitAt(from + 1);
        switch (text.signAt(from)) {
            case 'n':
                return points(digit) >= 0;
            case 'k':
                return make(digit) >= 0;
            case 'l':
                return isTurned(digit, text.digitAt(from + 2));
            case 's':
                return comes(toldSet(from + 1, end)) >= 0;
            case 't':
                return goes(toldSet(from + 1, end)) >= 0;
            case 'c':
                return choose(toldSet(from + 1, end)) >= 0;
            default:
                return false;
        }
    }

    private boolean isTurned(int a, int b) {
        if (!live.family.isPair(a, b)) {
            return false;
        }
        live.family.turnLine(a, b);
        return true;
    }

    /** The set of the POINTS that digits tell; 0, which every call refuses, if one of them isn't there. */
    private int toldSet(int from, int end) {
        int set = 0;
        for (int i = from; i < end; i++) {
            int point = text.digitAt(i);
            if (!live.family.isPoint(point)) {
                return 0;
            }
            set |= 1 << point;
        }
        return set;
    }

    /** Set i, from 0, of a set of sets, the least first; NO_MORE beyond them. */
    private static int nthOf(int sets, int i) {
        int left = i;
        for (int set = 1; set < 1 << MOST_POINTS; set++) {
            if ((sets >>> set & 1) == 0) {
                continue;
            }
            if (left == 0) {
                return set;
            }
            left--;
        }
        return NO_MORE;
    }

    /** All sets that lie within a set. */
    private static int within(int set) {
        int sets = ~1;
        for (int p = 0; p < HAVING.length; p++) {
            if ((set >> p & 1) == 0) {
                sets &= ~HAVING[p];
            }
        }
        return sets;
    }

    /** All sets within which a set lies. */
    private static int around(int set) {
        int sets = ~1;
        for (int p = 0; p < HAVING.length; p++) {
            if ((set >> p & 1) != 0) {
                sets &= HAVING[p];
            }
        }
        return sets;
    }

    /** The least set of a set of sets that isn't empty. */
    private static int leastOf(int sets) {
        return Integer.bitCount((sets & -sets) - 1);
    }

    private static long fraction(int above, int below, int part) {
        int divisor = commonDivisor(above, below);
        if (divisor < 1) {
            return NO;
        }
        return part == 0 ? above / divisor : below / divisor;
    }

    private static int commonDivisor(int a, int b) {
        int big = a;
        int small = b;
        for (int round = 0; round < 64 && small > 0; round++) {
            int rest = big % small;
            big = small;
            small = rest;
        }
        return big;
    }

    /** POINTS, LINES, and THE FAMILY. */
    private static final class Family {
        int points;
        int sets;
        /** Bit 5 a + b, and bit 5 b + a: there is a LINE of POINTS a and b. */
        private int lines;

        Family() {
            restart(FIRST_POINTS);
        }

        void restart(int n) {
            points = n;
            lines = 0;
            build(BARE);
        }

        void copy(Family other) {
            points = other.points;
            sets = other.sets;
            lines = other.lines;
        }

        int whole() {
            return (1 << points) - 1;
        }

        int size() {
            return Integer.bitCount(sets);
        }

        boolean isPoint(int p) {
            return p >= 0 && p < points;
        }

        boolean isPair(int a, int b) {
            return isPoint(a) && isPoint(b) && a != b;
        }

        boolean isSet(int set) {
            return set >= 1 && set <= whole();
        }

        boolean holds(int set) {
            return isSet(set) && (sets >>> set & 1) != 0;
        }

        boolean isFace(int set) {
            return holds(set) && set != whole();
        }

        boolean isLined(int a, int b) {
            return (lines >> MOST_POINTS * a + b & 1) != 0;
        }

        void turnLine(int a, int b) {
            lines ^= 1 << MOST_POINTS * a + b | 1 << MOST_POINTS * b + a;
        }

        int lineCount() {
            return Integer.bitCount(lines) / 2;
        }

        void build(int kind) {
            sets = 0;
            for (int set = 1; set <= whole(); set++) {
                if (isSingle(set) || set == whole() || isOfKind(kind, set)) {
                    sets |= 1 << set;
                }
            }
        }

        private static boolean isSingle(int set) {
            return (set & set - 1) == 0;
        }

        private boolean isOfKind(int kind, int set) {
            switch (kind) {
                case PATH:
                    return isRow(set);
                case RING:
                    // what follows round about leaves a row of POINTS out
                    return isRow(set) || isRow(whole() ^ set);
                case ALL:
                    return true;
                case STAR:
                    return (set & 1) != 0;
                case CHAIN:
                    return (set & set + 1) == 0;
                case LINED:
                    return hangsTogether(set);
                default:
                    return false;
            }
        }

        /** Whether a set's bits stand side by side: then adding the lowest leaves none of them. */
        private static boolean isRow(int set) {
            return (set + (set & -set) & set) == 0;
        }

        private boolean hangsTogether(int set) {
            int reached = set & -set;
            for (int round = 0; round < points; round++) {
                for (int p = 0; p < points; p++) {
                    if ((reached >> p & 1) != 0) {
                        reached |= lines >> MOST_POINTS * p & set;
                    }
                }
            }
            return reached == set;
        }

        /** A set COMES. What two join to is greater than both, so one way up through all sets is enough. */
        void join(int coming) {
            sets |= 1 << coming;
            for (int a = 1; a <= whole(); a++) {
                for (int b = 1; b < a && holds(a); b++) {
                    if ((a & b) != 0 && holds(b)) {
                        sets |= 1 << (a | b);
                    }
                }
            }
        }

        /** Whether a set of THE FAMILY may go: no two others of it that meet make it up. */
        boolean canLose(int set) {
            if (isSingle(set) || set == whole()) {
                return false;
            }
            int inner = sets & within(set);
            for (int a = 1; a < set; a++) {
                for (int b = 1; b < a && (inner >>> a & 1) != 0; b++) {
                    if ((inner >>> b & 1) != 0 && (a & b) != 0 && (a | b) == set) {
                        return false;
                    }
                }
            }
            return true;
        }

        void lose(int set) {
            sets &= ~(1 << set);
        }

        int partsOf(int set) {
            int inner = sets & within(set);
            int parts = 0;
            for (int s = 1; s <= set; s++) {
                if ((inner >>> s & 1) != 0 && (inner & around(s)) == 1 << s) {
                    parts |= 1 << s;
                }
            }
            return parts;
        }

        /** How many sets of THE FAMILY that lie within a set have a POINT. */
        int countWith(int set, int point) {
            if (point < 0 || point >= HAVING.length) {
                return 0;
            }
            return Integer.bitCount(sets & within(set) & HAVING[point]);
        }

        /** Whether two unlike FACES, the lesser first, are a NEST. */
        boolean arePair(int set, int other) {
            int both = set | other;
            return (set & other) == 0 ? (sets >>> both & 1) == 0 : both == other;
        }

        /** Whether a NEST stays one when a FACE that it doesn't have comes to it. */
        boolean nestTakes(int nest, int set) {
            int apart = 0;
            int rest = nest;
            for (int left = Integer.bitCount(nest); left > 0; left--) {
                int other = leastOf(rest);
                rest &= rest - 1;
                int both = set | other;
                if ((set & other) == 0) {
                    apart |= 1 << other;
                } else if (both != set && both != other) {
                    return false;
                }
            }
            return !isJoined(apart, set);
        }

        /**
         * Whether a set and some of the sets of a NEST apart from it make up a set of THE FAMILY. Some of
         * these may lie within others: they add nothing, so what is left has no POINT in common.
         */
        private boolean isJoined(int apart, int set) {
            int some = apart;
            for (int tries = (1 << Integer.bitCount(apart)) - 1; tries > 0; tries--) {
                int union = set;
                int rest = some;
                for (int left = Integer.bitCount(some); left > 0; left--) {
                    union |= Integer.bitCount((rest & -rest) - 1);
                    rest &= rest - 1;
                }
                if ((sets >>> union & 1) != 0) {
                    return true;
                }
                some = some - 1 & apart;
            }
            return false;
        }

        int orderCount() {
            int orders = 1;
            for (int n = 2; n <= points; n++) {
                orders *= n;
            }
            return orders;
        }

        /** The place, as Body holds it, of the CORNER to which an ORDER LEADS; below 0: it is none. */
        int placeByOrder(int order) {
            int place = 0;
            int told = 0;
            int rest = order;
            int unled = sets;
            for (int digit = Math.min(points, TENS.length) - 1; digit >= 0; digit--) {
                int point = rest / TENS[digit] - 1;
                if (!isPoint(point) || (told >> point & 1) != 0) {
                    return BAD;
                }
                rest %= TENS[digit];
                told |= 1 << point;
                place |= Integer.bitCount(unled & HAVING[point]) << AT_BITS * (points - 1 - point);
                unled &= ~HAVING[point];
            }
            return place;
        }
    }

    /**
     * The CORNERS of a Family, found again as soon as it has changed. A place is what a CORNER stands
     * AT, five bits for each POINT, POINT 0 on top: so places stand in the CORNERS' order.
     */
    private static final class Body {
        private final Family family;
        private int builtSets;
        private boolean arranged;
        private int farthest;
        private int corners;
        private final int[] nestCounts = new int[MOST_POINTS];
        /** Entry s: the FACES above s that are a NEST of two with it. */
        private final int[] fellows = new int[1 << MOST_POINTS];
        private final int[] nestRow = new int[MOST_CORNERS];
        private final int[] places = new int[MOST_CORNERS];
        private final int[] worths = new int[MOST_CORNERS];
        private final int[] flips = new int[MOST_CORNERS * MOST_IN_NEST];
        private final int[] distances = new int[MOST_CORNERS];
        private final int[] queue = new int[MOST_CORNERS];
        private final Meetings met = new Meetings();

        Body(Family family) {
            this.family = family;
        }

        int nestCount(int k) {
            countNests();
            return k >= 0 && k < nestCounts.length ? nestCounts[k] : 0;
        }

        int cornerCount() {
            countNests();
            return corners;
        }

        boolean isCorner(int c) {
            countNests();
            return c >= 0 && c < corners;
        }

        /** THE FAMILY's greatest set is WHOLE, so its sets tell whether POINTS are as they were, too. */
        private void countNests() {
            if (builtSets == family.sets) {
                return;
            }
            builtSets = family.sets;
            arranged = false;
            farthest = NONE;
            corners = 0;
            for (int k = 0; k < nestCounts.length; k++) {
                nestCounts[k] = 0;
            }
            int faces = family.sets & ~(1 << family.whole());
            findFellows(faces);
            grow(this, 0, faces, 0);
        }

        private void findFellows(int faces) {
            for (int set = 1; set < fellows.length; set++) {
                fellows[set] = 0;
                for (int other = set + 1; other < fellows.length && (faces >>> set & 1) != 0; other++) {
                    if ((faces >>> other & 1) != 0 && family.arePair(set, other)) {
                        fellows[set] |= 1 << other;
                    }
                }
            }
        }

        /** Counts a NEST and all that come of it by sets of open, each of which goes with each of its own. */
        private static void grow(Body body, int nest, int open, int size) {
            if (size < 0 || size >= body.nestCounts.length) {
                return;
            }
            body.nestCounts[size]++;
            if (size == body.family.points - 1) {
                body.addCorner(nest);
                return;
            }
            int rest = open;
            for (int left = Integer.bitCount(open); left > 0; left--) {
                int set = leastOf(rest);
                rest &= rest - 1;
                // for NESTS of two, open has made sure of it
                if (size < 2 || body.family.nestTakes(nest, set)) {
                    grow(body, nest | 1 << set, rest & body.fellows[set], size + 1);
                }
            }
        }

        private void addCorner(int nest) {
            if (corners < nestRow.length) {
                nestRow[corners] = nest;
                corners++;
            }
        }

        private void arrange() {
            countNests();
            if (arranged) {
                return;
            }
            arranged = true;
            for (int c = 0; c < corners; c++) {
                insert(c, nestRow[c], placeOf(nestRow[c]));
            }
            for (int c = 0; c < corners; c++) {
                worths[c] = worthAt(places[c]);
            }
            findFlips();
        }

        private int placeOf(int nest) {
            int place = 0;
            for (int p = 0; p < family.points; p++) {
                place = place << AT_BITS | family.countWith(smallestWith(nest, p), p);
            }
            return place;
        }

        /** Of a NEST's sets with a POINT each lies within the next, so the least as bits is the smallest. */
        private int smallestWith(int nest, int point) {
            int having = (nest | 1 << family.whole()) & HAVING[point];
            return leastOf(having);
        }

        /** Puts a CORNER among the first c, which stand in order. */
        private void insert(int c, int nest, int place) {
            int to = c;
            for (int i = c; i > 0 && places[i - 1] > place; i--) {
                places[i] = places[i - 1];
                nestRow[i] = nestRow[i - 1];
                to = i - 1;
            }
            places[to] = place;
            nestRow[to] = nest;
        }

        private int atOf(int place, int point) {
            return place >> AT_BITS * (family.points - 1 - point) & AT_MASK;
        }

        private int worthAt(int place) {
            int worth = 0;
            for (int p = 0; p < family.points && p < TENS.length; p++) {
                worth += atOf(place, p) * TENS[p];
            }
            return worth;
        }

        private void findFlips() {
            for (int a = 0; a < corners; a++) {
                for (int b = 0; b < a; b++) {
                    int leaving = nestRow[a] & ~nestRow[b];
                    if ((leaving & leaving - 1) == 0) {
                        putFlip(a, leaving, b);
                        putFlip(b, nestRow[b] & ~nestRow[a], a);
                    }
                }
            }
        }

        private void putFlip(int c, int leaving, int to) {
            int slot = c * MOST_IN_NEST + Integer.bitCount(nestRow[c] & leaving - 1);
            if (slot >= 0 && slot < flips.length) {
                flips[slot] = to;
            }
        }

        int standsAt(int c, int point) {
            arrange();
            return atOf(places[c], point);
        }

        int nestOf(int c) {
            arrange();
            return nestRow[c];
        }

        int flipOf(int c, int k) {
            arrange();
            return flips[c * MOST_IN_NEST + k];
        }

        int worthOf(int c) {
            arrange();
            return worths[c];
        }

        int risesOf(int c) {
            arrange();
            return flipsBelow(c);
        }

        private int flipsBelow(int c) {
            int rises = 0;
            for (int k = 0; k < family.points - 1; k++) {
                if (worths[flips[c * MOST_IN_NEST + k]] < worths[c]) {
                    rises++;
                }
            }
            return rises;
        }

        int countRisen(int k) {
            arrange();
            int risen = 0;
            for (int c = 0; c < corners; c++) {
                if (flipsBelow(c) == k) {
                    risen++;
                }
            }
            return risen;
        }

        /**
         * Each set of a CORNER, and WHOLE, has one POINT that no lesser one within it has; an ORDER LEADS
         * to the CORNER if that POINT is the first of each set's: one in as many as the set has POINTS.
         */
        int ordersTo(int c) {
            arrange();
            int sizes = family.points;
            int rest = nestRow[c];
            for (int left = Integer.bitCount(rest); left > 0; left--) {
                sizes *= Integer.bitCount(leastOf(rest));
                rest &= rest - 1;
            }
            return sizes > 0 ? family.orderCount() / sizes : 0;
        }

        int stepsBetween(int one, int other) {
            arrange();
            spread(one);
            return distances[other];
        }

        int greatestSteps() {
            arrange();
            if (farthest < 0) {
                farthest = met.roundsToAll(flips, corners, family.points - 1);
            }
            return farthest;
        }

        /** Finds the STEPS from a CORNER to each. */
        private void spread(int from) {
            for (int c = 0; c < corners; c++) {
                distances[c] = NONE;
            }
            distances[from] = 0;
            queue[0] = from;
            int queued = 1;
            for (int next = 0; next < queued && next < corners; next++) {
                int here = queue[next];
                for (int k = 0; k < family.points - 1; k++) {
                    int there = flips[here * MOST_IN_NEST + k];
                    if (distances[there] < 0 && queued < queue.length) {
                        distances[there] = distances[here] + 1;
                        queue[queued] = there;
                        queued++;
                    }
                }
            }
        }

        /** How many CORNERS have all sets of a NEST. */
        int countOn(int nest) {
            arrange();
            int found = 0;
            for (int c = 0; c < corners; c++) {
                if ((nestRow[c] & nest) == nest) {
                    found++;
                }
            }
            return found;
        }

        /** The first CORNER that has all sets of a NEST. */
        int firstOn(int nest) {
            arrange();
            for (int c = 0; c < corners; c++) {
                if ((nestRow[c] & nest) == nest) {
                    return c;
                }
            }
            return NO_MORE;
        }

        int cornerAt(int place) {
            arrange();
            for (int c = 0; c < corners; c++) {
                if (places[c] == place) {
                    return c;
                }
            }
            return NO_MORE;
        }

        int sumAt(int point) {
            arrange();
            int sum = 0;
            for (int c = 0; c < corners; c++) {
                sum += atOf(places[c], point);
            }
            return sum;
        }

        /** Over all CORNERS the least sum of what one stands AT for the POINTS of a set. */
        int leastOver(int set) {
            arrange();
            int least = NONE;
            for (int c = 0; c < corners; c++) {
                int sum = 0;
                for (int p = 0; p < family.points; p++) {
                    sum += (set >> p & 1) * atOf(places[c], p);
                }
                least = c == 0 ? sum : Math.min(least, sum);
            }
            return least;
        }
    }

    /**
     * FARTHEST, for all CORNERS at once: each tells its FLIPS, round by round, of which CORNERS it knows,
     * at first of itself; after as many rounds as are FARTHEST each knows of all. A CORNER's bit stands
     * in the low row, or for those from 64 on in the high one.
     */
    private static final class Meetings {
        private final long[] low = new long[MOST_CORNERS];
        private final long[] high = new long[MOST_CORNERS];
        private final long[] nextLow = new long[MOST_CORNERS];
        private final long[] nextHigh = new long[MOST_CORNERS];

        int roundsToAll(int[] flips, int corners, int flipCount) {
            long allLow = 0;
            long allHigh = 0;
            for (int c = 0; c < corners; c++) {
                low[c] = c < LONG_BITS ? 1L << c : 0;
                high[c] = c < LONG_BITS ? 0 : 1L << c - LONG_BITS;
                allLow |= low[c];
                allHigh |= high[c];
            }
            int rounds = 0;
            while (rounds < corners && !allKnow(allLow, allHigh, corners)) {
                tell(flips, corners, flipCount);
                rounds++;
            }
            return rounds;
        }

        private boolean allKnow(long allLow, long allHigh, int corners) {
            for (int c = 0; c < corners; c++) {
                if (low[c] != allLow || high[c] != allHigh) {
                    return false;
                }
            }
            return true;
        }

        private void tell(int[] flips, int corners, int flipCount) {
            for (int c = 0; c < corners; c++) {
                long knownLow = low[c];
                long knownHigh = high[c];
                for (int k = 0; k < flipCount; k++) {
                    int there = flips[c * MOST_IN_NEST + k];
                    knownLow |= low[there];
                    knownHigh |= high[there];
                }
                nextLow[c] = knownLow;
                nextHigh[c] = knownHigh;
            }
            for (int c = 0; c < corners; c++) {
                low[c] = nextLow[c];
                high[c] = nextHigh[c];
            }
        }
    }

    /** Rows of two numbers that come one behind the other, as many as there is room for. */
    private static final class Rows {
        int size;
        private final int[] firsts;
        private final int[] seconds;

        Rows(int room) {
            firsts = new int[Math.max(room, 0)];
            seconds = new int[Math.max(room, 0)];
        }

        void copy(Rows other) {
            size = Math.min(other.size, firsts.length);
            for (int row = 0; row < size; row++) {
                firsts[row] = other.firstAt(row);
                seconds[row] = other.secondAt(row);
            }
        }

        int empty() {
            size = 0;
            return size;
        }

        boolean isFull() {
            return size >= firsts.length;
        }

        int put(int first, int second) {
            if (!isFull()) {
                firsts[size] = first;
                seconds[size] = second;
                size++;
            }
            return size;
        }

        int firstAt(int row) {
            return row >= 0 && row < firsts.length ? firsts[row] : 0;
        }

        int secondAt(int row) {
            return row >= 0 && row < seconds.length ? seconds[row] : 0;
        }

        int find(int first) {
            for (int row = 0; row < size; row++) {
                if (firsts[row] == first) {
                    return row;
                }
            }
            return NONE;
        }

        int remove(int row) {
            for (int i = Math.max(row, 0); i < size - 1; i++) {
                firsts[i] = firsts[i + 1];
                seconds[i] = seconds[i + 1];
            }
            size = Math.max(size - 1, 0);
            return size;
        }
    }

    /** All that THE IMAGE holds. */
    private static final class Setup {
        final Family family = new Family();
        /** CHOSEN, by the first numbers. */
        final Rows picked = new Rows(MOST_IN_NEST);
        final Rows seen = new Rows(MOST_SEEN);
        final Rows events = new Rows(MOST_EVENTS);
        final Rows book = new Rows(MOST_BOOK);

        void copy(Setup other) {
            family.copy(other.family);
            picked.copy(other.picked);
            seen.copy(other.seen);
            events.copy(other.events);
            book.copy(other.book);
        }

        int pickedNest() {
            int nest = 0;
            for (int row = 0; row < picked.size; row++) {
                nest |= 1 << picked.firstAt(row);
            }
            return nest;
        }
    }

    /** THE TEXT. */
    private static final class Text {
        int size;
        private final byte[] signs = new byte[MOST_SIGNS];

        boolean isFull() {
            return size >= signs.length;
        }

        int put(int sign) {
            if (!isFull()) {
                signs[size] = (byte) sign;
                size++;
            }
            return size;
        }

        void empty() {
            size = 0;
        }

        /** Below 0: there is no such place. */
        int signAt(int i) {
            return i >= 0 && i < size && i < signs.length ? signs[i] : NONE;
        }

        /** Below 0: no digit is there. */
        int digitAt(int i) {
            int sign = signAt(i);
            return sign >= '0' && sign <= '9' ? sign - '0' : NONE;
        }

        /** The FAULT; below 0: there is none. */
        int fault() {
            int at = 0;
            for (int clause = 1; clause <= MOST_CLAUSES; clause++) {
                int most = mostDigits(signAt(at));
                if (most == 0) {
                    return at;
                }
                at++;
                int digits = digitsFrom(at, most);
                at += digits;
                if (digits == 0 || most == 2 && digits < most) {
                    return at;
                }
                if (at == size) {
                    return NONE;
                }
                if (signAt(at) != ';' || clause == MOST_CLAUSES) {
                    return at;
                }
                at++;
            }
            return at;
        }

        private static int mostDigits(int letter) {
            switch (letter) {
                case 'n':
                case 'k':
                    return 1;
                case 'l':
                    return 2;
                case 's':
                case 't':
                case 'c':
                    return MOST_POINTS;
                default:
                    return 0;
            }
        }

        private int digitsFrom(int from, int most) {
            for (int digits = 0; digits < most; digits++) {
                if (digitAt(from + digits) < 0) {
                    return digits;
                }
            }
            return most;
        }
    }

    /** A TAPE: nothing, or a row of items, held as longs whatever their sort. */
    private static final class Tape {
        int sort = VOID;
        final long[] items = new long[MOST_ITEMS];
        private int size;

        void hold(int newSort, int n) {
            sort = newSort;
            size = Math.max(0, Math.min(n, items.length));
            for (int i = 0; i < size; i++) {
                items[i] = 0;
            }
        }

        /** Whether there are n items from i on. */
        boolean hasRun(int i, int n) {
            return i >= 0 && n >= 0 && n <= size - i;
        }

        long get(int i) {
            return hasRun(i, 1) ? items[i] : NO;
        }

        void put(int i, long v) {
            if (hasRun(i, 1)) {
                items[i] = cut(v);
            }
        }

        private long cut(long v) {
            switch (sort) {
                case BYTES:
                    return (byte) v;
                case SHORTS:
                    return (short) v;
                case INTS:
                    return (int) v;
                case BOOLEANS:
                    return v != 0 ? 1 : 0;
                default:
                    return v;
            }
        }
    }
}
