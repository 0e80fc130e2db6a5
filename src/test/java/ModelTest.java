import java.lang.reflect.InvocationTargetException;
import java.lang.reflect.Method;
import java.lang.reflect.Modifier;
import java.util.ArrayList;
import java.util.Arrays;
import java.util.Collections;
import java.util.Comparator;
import java.util.HashMap;
import java.util.HashSet;
import java.util.List;
import java.util.Map;
import java.util.Random;
import java.util.Set;
import java.util.TreeSet;

/**
 * Holds NestedBodies against a slow model that follows the document's words one by one: over every
 * CLOSED family of up to four POINTS, some of five, every call with edges for its arguments, and long runs of
 * calls chosen by a fixed seed.
 */
public final class ModelTest {
    private static int wrong = 0;
    private static long compared = 0;
    private static final int[] EDGES = {Integer.MIN_VALUE, -6, -2, 1000, 999, 100, 99, 60, 61, 127, 128,
        Integer.MAX_VALUE, Integer.MAX_VALUE - 1};

    public static void main(String[] args) throws ReflectiveOperationException {
        everySmallFamily();
        everyKind();
        for (int state = 0; state < 5; state++) {
            everyCallAtEdges(state);
        }
        for (int run = 0; run < 40; run++) {
            someFamilyOfFive(new Random(7000 + run));
        }
        for (int run = 0; run < 1500; run++) {
            longRun(run);
        }
        System.out.println(compared + " answers compared, " + wrong + " wrong");
        if (wrong != 0) {
            System.exit(1);
        }
    }

    private static void same(String what, long got, long want) {
        compared++;
        if (got != want) {
            wrong++;
            if (wrong < 40) {
                System.out.println(what + " answered " + got + ", due is " + want);
            }
        }
    }

    // ---- families

    private static void everySmallFamily() {
        for (int n = 2; n <= 4; n++) {
            int whole = (1 << n) - 1;
            List<Integer> free = new ArrayList<>();
            for (int s = 1; s < whole; s++) {
                if (Integer.bitCount(s) > 1) {
                    free.add(s);
                }
            }
            for (int pick = 0; pick < 1 << free.size(); pick++) {
                TreeSet<Integer> family = bare(n);
                for (int i = 0; i < free.size(); i++) {
                    if ((pick >> i & 1) != 0) {
                        family.add(free.get(i));
                    }
                }
                if (isClosed(family)) {
                    compareAll(n, family);
                }
            }
        }
    }

    private static void someFamilyOfFive(Random random) {
        TreeSet<Integer> family = bare(5);
        int coming = random.nextInt(7);
        for (int i = 0; i < coming; i++) {
            family.add(1 + random.nextInt(31));
            close(family);
        }
        compareAll(5, family);
    }

    private static void everyKind() {
        for (int n = 2; n <= 5; n++) {
            for (int kind = 0; kind < 7; kind++) {
                NestedBodies x = new NestedBodies();
                Model m = new Model();
                same("points", x.points(n), m.points(n));
                same("line", x.line(0, n - 1, 1), m.line(0, n - 1, 1));
                same("line", x.line(1, n / 2, 1), m.line(1, n / 2, 1));
                same("make " + kind + " of " + n, x.make(kind), m.make(kind));
                compareBody("kind " + kind + " of " + n, x, m);
            }
        }
    }

    private static void compareAll(int n, TreeSet<Integer> family) {
        NestedBodies x = new NestedBodies();
        Model m = new Model();
        x.points(n);
        m.points(n);
        for (int s : family) {
            same("comes(" + s + ")", x.comes(s), m.comes(s));
        }
        compareBody(n + " " + family, x, m);
    }

    private static void compareBody(String name, NestedBodies x, Model m) {
        for (int what = 0; what < 5; what++) {
            same(name + " told " + what, x.told(what), m.told(what));
        }
        for (int k = -1; k <= m.n; k++) {
            same(name + " nests " + k, x.nests(k), m.nests(k));
            same(name + " risen " + k, x.risen(k), m.risen(k));
        }
        int corners = m.told(2);
        for (int c = -1; c <= corners; c++) {
            for (int k = -1; k <= m.n; k++) {
                same(name + " at " + c + " " + k, x.at(c, k), m.at(c, k));
                same(name + " set " + c + " " + k, x.set(c, k), m.set(c, k));
                same(name + " flip " + c + " " + k, x.flip(c, k), m.flip(c, k));
                same(name + " corner " + c + " " + k, x.corner(c, k), m.corner(c, k));
                same(name + " odds " + c + " " + k, x.odds(c, k), m.odds(c, k));
            }
            int other = (c * 7 + 3) % (corners + 1);
            same(name + " steps " + c + " " + other, x.steps(c, other), m.steps(c, other));
        }
        for (int s = -1; s <= 32; s++) {
            for (int what = -1; what <= 4; what++) {
                same(name + " of " + s + " " + what, x.of(s, what), m.of(s, what));
                same(name + " part " + s + " " + what, x.part(s, what), m.part(s, what));
                same(name + " face " + s + " " + what, x.face(s, what), m.face(s, what));
                same(name + " mean " + s + " " + what, x.mean(s, what), m.mean(s, what));
            }
            same(name + " family " + s, x.family(s), m.family(s));
        }
        for (List<Integer> order : orders(m.n)) {
            int number = 0;
            for (int p : order) {
                number = number * 10 + p + 1;
            }
            same(name + " leads " + number, x.leads(number), m.leads(number));
        }
    }

    // ---- every call with edges for its arguments

    private static final int LEAST = Integer.MIN_VALUE, MOST = Integer.MAX_VALUE;
    /** For calls of one argument, of two, and so on. */
    private static final int[][] EDGES_BY_COUNT = {{},
        {LEAST, LEAST + 1, -1234, -15, -11, -10, -6, -5, -4, -3, -2, -1, 0, 1, 2, 3, 4, 5, 6, 7, 8, 9, 14, 15, 16, 17,
            30, 31, 32, 33, 59, 63, 64, 99, 100, 119, 120, 121, 127, 128, 129, 255, 256, 1234, 1243, 4321, 12345, 54321,
            123456, MOST - 1, MOST},
        {LEAST, -5, -2, -1, 0, 1, 2, 3, 4, 5, 6, 7, 8, 15, 16, 31, 32, 99, 100, 119, 120, 999, 1000, MOST - 1, MOST},
        {LEAST, -2, -1, 0, 1, 2, 3, 4, 5, 6, 59, 60, 61, MOST},
        {},
        {LEAST, -1, 0, 1, 5, 6, MOST}};
    private static final Set<String> ASKED = Set.of("family", "of", "part", "told", "chosen", "nests", "risen", "at",
        "set", "flip", "corner", "steps", "face", "leads", "fits", "odds", "mean", "after", "looked", "judge", "count",
        "peek");

    private static void everyCallAtEdges(int state) throws ReflectiveOperationException {
        for (Method call : NestedBodies.class.getDeclaredMethods()) {
            if (Modifier.isPublic(call.getModifiers())) {
                atEdges(state, call, Model.class.getDeclaredMethod(call.getName(), call.getParameterTypes()));
            }
        }
    }

    private static void atEdges(int state, Method call, Method due) throws ReflectiveOperationException {
        int count = call.getParameterCount();
        int[] edges = EDGES_BY_COUNT[count];
        int ways = 1;
        for (int i = 0; i < count; i++) {
            ways *= edges.length;
        }
        NestedBodies x = null;
        Model m = null;
        for (int way = 0; way < ways; way++) {
            // an object is used for at most 512 calls
            if (x == null || way % 200 == 0) {
                x = new NestedBodies();
                m = new Model();
                setUp(state, x, m);
            }
            Object[] arguments = new Object[count];
            int rest = way;
            for (int i = 0; i < count; i++) {
                int edge = edges[rest % edges.length];
                arguments[i] = call.getParameterTypes()[i] == long.class ? (Object) (long) edge : (Object) edge;
                rest /= edges.length;
            }
            String name = "state " + state + " " + call.getName() + Arrays.toString(arguments);
            long answer = answer(name, x, call, arguments);
            same(name, answer, answer(name, m, due, arguments));
            if (!ASKED.contains(call.getName()) && (answer >= 0 || count < 3)) {
                compareState(name, x, m);
                x = null;
            }
        }
    }

    private static long answer(String name, Object of, Method call, Object[] arguments)
        throws ReflectiveOperationException {
        try {
            return ((Number) call.invoke(of, arguments)).longValue();
        } catch (InvocationTargetException e) {
            wrong++;
            System.out.println(name + " threw " + e.getCause());
            return Long.MAX_VALUE;
        }
    }

    private static void setUp(int state, NestedBodies x, Model m) {
        if (state == 1) {
            same("points", x.points(2), m.points(2));
            same("line", x.line(0, 1, 1), m.line(0, 1, 1));
        } else if (state == 2) {
            same("points", x.points(5), m.points(5));
            same("make", x.make(3), m.make(3));
            same("choose", x.choose(30), m.choose(30));
        } else if (state >= 3) {
            same("comes", x.comes(3), m.comes(3));
            same("line", x.line(0, 2, 1), m.line(0, 2, 1));
            same("choose", x.choose(3), m.choose(3));
            same("image", x.image(), m.image());
            same("choose", x.choose(1), m.choose(1));
            same("choose", x.choose(8), m.choose(8));
            for (int i = 0; i < (state == 3 ? 2 : 8); i++) {
                same("see", x.see(i % 5, 1), m.see(i % 5, 1));
                same("event", x.event(0, 1 + i), m.event(0, 1 + i));
                same("book", x.book(8 - i, 0), m.book(8 - i, 0));
            }
            for (int i = 0; i < (state == 3 ? 4 : 100); i++) {
                int sign = "k1;c".charAt(i % 4);
                same("feed", x.feed(sign), m.feed(sign));
            }
            for (int t = 0; t < 5; t++) {
                int sort = state == 3 ? t : 1;
                int size = state == 3 ? 5 : 60;
                same("tape", x.tape(t, sort, size), m.tape(t, sort, size));
                same("item", x.item(t, 0, 1), m.item(t, 0, 1));
                same("item", x.item(t, 4, 5), m.item(t, 4, 5));
            }
        }
    }

    private static void compareState(String name, NestedBodies x, Model m) {
        for (int what = 0; what < 8; what++) {
            same(name + " told " + what, x.told(what), m.told(what));
            same(name + " count " + what, x.count(what), m.count(what));
            same(name + " chosen " + what, x.chosen(what), m.chosen(what));
            same(name + " after " + what, x.after(what), m.after(what));
            for (int t = 0; t < 6; t++) {
                same(name + " peek " + t, x.peek(t, what), m.peek(t, what));
            }
        }
        for (int i = 0; i < 9; i++) {
            same(name + " family " + i, x.family(i), m.family(i));
        }
        same(name + " looked", x.looked(), m.looked());
        same(name + " fits", x.fits(), m.fits());
    }

    // ---- long runs

    private static void longRun(int seed) {
        Random r = new Random(seed);
        NestedBodies x = new NestedBodies();
        Model m = new Model();
        for (int call = 0; call < 500; call++) {
            if (r.nextInt(25) == 0) {
                String text = someText(r);
                for (int i = 0; i < text.length() && call < 490; i++, call++) {
                    same("run " + seed + " feed", x.feed(text.charAt(i)), m.feed(text.charAt(i)));
                }
                same("run " + seed + " read " + text, x.read(), m.read());
            } else {
                oneCall(seed, r, x, m);
            }
        }
    }

    private static String someText(Random r) {
        StringBuilder text = new StringBuilder();
        int clauses = r.nextInt(6) == 0 ? 11 + r.nextInt(4) : 1 + r.nextInt(4);
        for (int c = 0; c < clauses; c++) {
            char letter = "nkstlcsc".charAt(r.nextInt(8));
            int digits = letter == 'n' || letter == 'k' ? 1 : letter == 'l' ? 2 : 1 + r.nextInt(4);
            int most = r.nextInt(12) == 0 ? 10 : letter == 'n' ? 6 : letter == 'k' ? 7 : 4;
            text.append(c == 0 ? "" : ";").append(letter);
            for (int d = 0; d < digits; d++) {
                text.append((char) ('0' + r.nextInt(most)));
            }
        }
        if (r.nextInt(4) == 0) {
            int place = r.nextInt(text.length() + 1);
            text.insert(place, "nkstlc;0129 xN".charAt(r.nextInt(14)));
        }
        if (r.nextInt(4) == 0) {
            text.deleteCharAt(r.nextInt(text.length()));
        }
        return text.toString();
    }

    private static int some(Random r, int below) {
        int way = r.nextInt(40);
        if (way == 0) {
            return EDGES[r.nextInt(EDGES.length)];
        }
        return way < 3 ? -1 : way < 5 ? below : r.nextInt(Math.max(below, 1));
    }

    private static void oneCall(int seed, Random r, NestedBodies x, Model m) {
        int corner = some(r, m.told(2));
        int other = some(r, m.told(2));
        int set = some(r, r.nextInt(5) == 0 ? 32 : 1 << m.n);
        int inFamily = m.family(some(r, m.fam.size()));
        if (r.nextInt(3) != 0) {
            set = inFamily;
        }
        int a = some(r, 6);
        int b = some(r, 6);
        int what = some(r, 8);
        int i = some(r, 12);
        int j = some(r, 12);
        int n = some(r, 9);
        long v = r.nextInt(3) == 0 ? r.nextLong() : m.family(r.nextInt(9));
        switch (r.nextInt(46)) {
            case 0: if (r.nextInt(3) == 0) { same(seed + " points", x.points(a), m.points(a)); } break;
            case 1: same(seed + " make", x.make(what), m.make(what)); break;
            case 2: same(seed + " comes", x.comes(set), m.comes(set)); break;
            case 3: same(seed + " goes", x.goes(set), m.goes(set)); break;
            case 4: int is = some(r, 2); same(seed + " line", x.line(a, b, is), m.line(a, b, is)); break;
            case 5: case 40: case 41: same(seed + " choose", x.choose(set), m.choose(set)); break;
            case 6: same(seed + " drop", x.drop(set), m.drop(set)); break;
            case 7: same(seed + " feed", x.feed(n * 9), m.feed(n * 9)); break;
            case 8: if (r.nextInt(4) == 0) { same(seed + " read", x.read(), m.read()); } break;
            case 9: same(seed + " family", x.family(i), m.family(i)); break;
            case 10: same(seed + " of", x.of(set, a), m.of(set, a)); break;
            case 11: same(seed + " part", x.part(set, a), m.part(set, a)); break;
            case 12: case 42: same(seed + " told", x.told(what), m.told(what)); break;
            case 13: same(seed + " chosen", x.chosen(a), m.chosen(a)); break;
            case 14: same(seed + " nests", x.nests(a), m.nests(a)); break;
            case 15: same(seed + " risen", x.risen(a), m.risen(a)); break;
            case 16: same(seed + " at", x.at(corner, a), m.at(corner, a)); break;
            case 17: same(seed + " set", x.set(corner, a), m.set(corner, a)); break;
            case 18: same(seed + " flip", x.flip(corner, a), m.flip(corner, a)); break;
            case 19: same(seed + " corner", x.corner(corner, a), m.corner(corner, a)); break;
            case 20: same(seed + " steps", x.steps(corner, other), m.steps(corner, other)); break;
            case 21: same(seed + " face", x.face(set, a), m.face(set, a)); break;
            case 22: int order = someOrder(r, m.n); same(seed + " leads", x.leads(order), m.leads(order)); break;
            case 23: int seen = m.nests(a) >= 0 && r.nextInt(3) != 0 ? m.nests(a) : n;
                same(seed + " see", x.see(a, seen), m.see(a, seen)); break;
            case 24: same(seed + " fits", x.fits(), m.fits()); break;
            case 25: same(seed + " odds", x.odds(corner, b), m.odds(corner, b)); break;
            case 26: same(seed + " mean", x.mean(a, b), m.mean(a, b)); break;
            case 27: case 43: int e = r.nextInt(12) == 0 ? a : r.nextInt(4);
                int en = e == 2 ? what : e == 3 ? some(r, 45) : set;
                same(seed + " event", x.event(e, en), m.event(e, en)); break;
            case 28: case 29: case 44: same(seed + " after", x.after(a), m.after(a)); break;
            case 30: int bi = some(r, 2); same(seed + " book", x.book(set, bi), m.book(set, bi)); break;
            case 31: same(seed + " looked", x.looked(), m.looked()); break;
            case 32: same(seed + " judge", x.judge(a, i), m.judge(a, i)); break;
            case 33: same(seed + " image", x.image(), m.image()); break;
            case 34: same(seed + " undo", x.undo(), m.undo()); break;
            case 35: same(seed + " count", x.count(a), m.count(a)); break;
            case 36: int sort = r.nextInt(3) == 0 ? a : 1;
                same(seed + " tape", x.tape(b, sort, i), m.tape(b, sort, i)); break;
            case 37: same(seed + " item", x.item(a, i, v), m.item(a, i, v)); break;
            case 38: same(seed + " peek", x.peek(a, i), m.peek(a, i)); break;
            case 39: same(seed + " shift", x.shift(a, i, b, j, n), m.shift(a, i, b, j, n)); break;
            default: int t = r.nextInt(6); same(seed + " tape", x.tape(t, 1, i), m.tape(t, 1, i));
                for (int k = 0; k < 5; k++) {
                    long fv = m.family(k);
                    same(seed + " item", x.item(t, k, fv), m.item(t, k, fv));
                }
                same(seed + " judge", x.judge(t, 0), m.judge(t, 0)); break;
        }
    }

    private static int someOrder(Random r, int n) {
        if (r.nextInt(4) == 0) {
            return some(r, 60000);
        }
        List<List<Integer>> all = orders(r.nextInt(6) == 0 ? 2 + r.nextInt(4) : n);
        int number = 0;
        for (int p : all.get(r.nextInt(all.size()))) {
            number = number * 10 + p + 1;
        }
        return number;
    }

    // ---- the document's words

    private static TreeSet<Integer> bare(int n) {
        TreeSet<Integer> family = new TreeSet<>();
        for (int p = 0; p < n; p++) {
            family.add(1 << p);
        }
        family.add((1 << n) - 1);
        return family;
    }

    private static boolean isClosed(Set<Integer> family) {
        for (int a : family) {
            for (int b : family) {
                if ((a & b) != 0 && !family.contains(a | b)) {
                    return false;
                }
            }
        }
        return true;
    }

    private static void close(TreeSet<Integer> family) {
        while (!isClosed(family)) {
            for (int a : new ArrayList<>(family)) {
                for (int b : new ArrayList<>(family)) {
                    if ((a & b) != 0) {
                        family.add(a | b);
                    }
                }
            }
        }
    }

    private static List<List<Integer>> orders(int n) {
        List<List<Integer>> all = new ArrayList<>();
        addOrders(n, new ArrayList<>(), all);
        return all;
    }

    private static void addOrders(int n, List<Integer> begun, List<List<Integer>> all) {
        if (begun.size() == n) {
            all.add(new ArrayList<>(begun));
            return;
        }
        for (int p = 0; p < n; p++) {
            if (!begun.contains(p)) {
                begun.add(p);
                addOrders(n, begun, all);
                begun.remove(begun.size() - 1);
            }
        }
    }

    private static boolean isNest(TreeSet<Integer> family, int whole, List<Integer> sets) {
        for (int s : sets) {
            if (s == whole || !family.contains(s)) {
                return false;
            }
        }
        for (int a : sets) {
            for (int b : sets) {
                if ((a & b) != 0 && (a & b) != a && (a & b) != b) {
                    return false;
                }
            }
        }
        for (int pick = 0; pick < 1 << sets.size(); pick++) {
            int union = 0;
            boolean apart = Integer.bitCount(pick) >= 2;
            for (int i = 0; i < sets.size(); i++) {
                if ((pick >> i & 1) != 0) {
                    apart = apart && (union & sets.get(i)) == 0;
                    union |= sets.get(i);
                }
            }
            if (apart && family.contains(union)) {
                return false;
            }
        }
        return true;
    }

    /** All that follows from POINTS and THE FAMILY. */
    private static final class Shape {
        final int n;
        final TreeSet<Integer> family;
        final int[] nestCounts = new int[6];
        final List<List<Integer>> corners = new ArrayList<>();
        final List<int[]> stands = new ArrayList<>();
        final Map<List<Integer>, Integer> led = new HashMap<>();
        int[][] flips;
        int[][] steps;

        Shape(int n, TreeSet<Integer> family) {
            this.n = n;
            this.family = family;
            nestsFrom(new ArrayList<>(family), 0, new ArrayList<>());
            corners.sort(Comparator.comparing(c -> key(standsAt(c))));
            for (List<Integer> corner : corners) {
                stands.add(standsAt(corner));
            }
            findFlips();
            findSteps();
            for (List<Integer> order : orders(n)) {
                led.merge(Arrays.asList(leads(order)), 1, Integer::sum);
            }
        }

        private static String key(int[] stands) {
            StringBuilder key = new StringBuilder();
            for (int at : stands) {
                key.append((char) at);
            }
            return key.toString();
        }

        private void nestsFrom(List<Integer> all, int next, List<Integer> begun) {
            if (!isNest(family, (1 << n) - 1, begun)) {
                return;
            }
            nestCounts[begun.size()]++;
            if (begun.size() == n - 1) {
                List<Integer> corner = new ArrayList<>(begun);
                Collections.sort(corner);
                corners.add(corner);
            }
            for (int i = next; i < all.size(); i++) {
                begun.add(all.get(i));
                nestsFrom(all, i + 1, begun);
                begun.remove(begun.size() - 1);
            }
        }

        private int[] standsAt(List<Integer> corner) {
            int[] at = new int[n];
            for (int p = 0; p < n; p++) {
                int smallest = (1 << n) - 1;
                for (int s : corner) {
                    if ((s >> p & 1) != 0 && Integer.bitCount(s) < Integer.bitCount(smallest)) {
                        smallest = s;
                    }
                }
                for (int s : family) {
                    if ((s & ~smallest) == 0 && (s >> p & 1) != 0) {
                        at[p]++;
                    }
                }
            }
            return at;
        }

        private void findFlips() {
            flips = new int[corners.size()][n - 1];
            for (int c = 0; c < corners.size(); c++) {
                for (int k = 0; k < n - 1; k++) {
                    Set<Integer> kept = new HashSet<>(corners.get(c));
                    kept.remove(corners.get(c).get(k));
                    int found = 0;
                    for (int d = 0; d < corners.size(); d++) {
                        if (d != c && corners.get(d).containsAll(kept)) {
                            flips[c][k] = d;
                            found++;
                        }
                    }
                    same("flips found", found, 1);
                }
            }
        }

        private void findSteps() {
            int count = corners.size();
            steps = new int[count][count];
            for (int c = 0; c < count; c++) {
                Arrays.fill(steps[c], 9999);
                steps[c][c] = 0;
                for (int round = 0; round < count; round++) {
                    boolean nearer = false;
                    for (int d = 0; d < count; d++) {
                        for (int to : flips[d]) {
                            if (steps[c][d] + 1 < steps[c][to]) {
                                steps[c][to] = steps[c][d] + 1;
                                nearer = true;
                            }
                        }
                    }
                    if (!nearer) {
                        break;
                    }
                }
            }
        }

        Integer[] leads(List<Integer> order) {
            Integer[] at = new Integer[n];
            Arrays.fill(at, 0);
            for (int s : family) {
                for (int p : order) {
                    if ((s >> p & 1) != 0) {
                        at[p]++;
                        break;
                    }
                }
            }
            return at;
        }

        int worth(int c) {
            int worth = 0;
            int ten = 1;
            for (int p = 0; p < n; p++) {
                worth += stands.get(c)[p] * ten;
                ten *= 10;
            }
            return worth;
        }

        int rises(int c) {
            int rises = 0;
            for (int to : flips[c]) {
                rises += worth(to) < worth(c) ? 1 : 0;
            }
            return rises;
        }

        int farthest() {
            int far = 0;
            for (int[] row : steps) {
                for (int s : row) {
                    far = Math.max(far, s);
                }
            }
            return far;
        }

        int ordersTo(int c) {
            List<Integer> at = new ArrayList<>();
            for (int a : stands.get(c)) {
                at.add(a);
            }
            return led.getOrDefault(at, 0);
        }
    }

    /** The whole of the document, slowly. */
    private static final class Model {
        private static final Map<String, Shape> SHAPES = new HashMap<>();
        int n = 4;
        TreeSet<Integer> fam = bare(4);
        Set<String> lines = new HashSet<>();
        List<Integer> picked = new ArrayList<>();
        List<int[]> seen = new ArrayList<>();
        List<int[]> events = new ArrayList<>();
        List<int[]> bookRows = new ArrayList<>();
        Model kept = null;
        String text = "";
        int[] sorts = {-1, -1, -1, -1, -1, -1};
        long[][] tapes = new long[6][];

        static Shape shape(int n, TreeSet<Integer> family) {
            return SHAPES.computeIfAbsent(n + ":" + family, key -> new Shape(n, new TreeSet<>(family)));
        }

        Shape shape() {
            return shape(n, fam);
        }

        int whole() {
            return (1 << n) - 1;
        }

        boolean isSet(int s) {
            return s >= 1 && s <= whole();
        }

        boolean isPoint(int p) {
            return p >= 0 && p < n;
        }

        static String pair(int a, int b) {
            return Math.min(a, b) + "-" + Math.max(a, b);
        }

        int points(int count) {
            if (count < 2 || count > 5) {
                return -2;
            }
            int before = n;
            n = count;
            fam = bare(n);
            lines.clear();
            picked.clear();
            return before;
        }

        static TreeSet<Integer> made(int n, Set<String> lines, int kind) {
            TreeSet<Integer> family = bare(n);
            for (int a = 0; a < n; a++) {
                for (int length = 1; length <= n; length++) {
                    int set = 0;
                    for (int i = 0; i < length; i++) {
                        set |= 1 << (a + i) % n;
                    }
                    if (kind == 2 || kind == 1 && a + length <= n || kind == 5 && a == 0) {
                        family.add(set);
                    }
                }
            }
            for (int s = 1; s < 1 << n; s++) {
                if (kind == 3 || kind == 4 && s % 2 == 1 || kind == 6 && hangs(n, lines, s)) {
                    family.add(s);
                }
            }
            return family;
        }

        static boolean hangs(int n, Set<String> lines, int set) {
            // it does, if it can't be cut in two without a line between
            for (int one = 1; one < set; one++) {
                if ((one & ~set) != 0) {
                    continue;
                }
                boolean lined = false;
                for (int a = 0; a < n; a++) {
                    for (int b = 0; b < n; b++) {
                        lined |= (one >> a & 1) != 0 && (set >> b & 1) != 0 && (one >> b & 1) == 0
                            && lines.contains(pair(a, b));
                    }
                }
                if (!lined) {
                    return false;
                }
            }
            return true;
        }

        int make(int kind) {
            if (kind < 0 || kind > 6) {
                return -1;
            }
            fam = made(n, lines, kind);
            picked.clear();
            return fam.size();
        }

        int comes(int s) {
            if (!isSet(s)) {
                return -1;
            }
            if (fam.add(s)) {
                close(fam);
                picked.clear();
            }
            return fam.size();
        }

        int goes(int s) {
            if (!fam.contains(s)) {
                return -1;
            }
            TreeSet<Integer> less = new TreeSet<>(fam);
            less.remove(s);
            if (Integer.bitCount(s) == 1 || s == whole() || !isClosed(less)) {
                return -3;
            }
            fam = less;
            picked.clear();
            return fam.size();
        }

        int line(int a, int b, int is) {
            if (!isPoint(a) || !isPoint(b) || a == b) {
                return -1;
            }
            if (is < 0 || is > 1) {
                return -2;
            }
            boolean was = is == 1 ? !lines.add(pair(a, b)) : lines.remove(pair(a, b));
            return was ? 1 : 0;
        }

        int choose(int s) {
            if (!fam.contains(s) || s == whole()) {
                return -1;
            }
            List<Integer> more = new ArrayList<>(picked);
            more.add(s);
            if (picked.contains(s) || !isNest(fam, whole(), more)) {
                return -3;
            }
            picked = more;
            return picked.size();
        }

        int drop(int s) {
            return picked.remove((Integer) s) ? picked.size() : -1;
        }

        int feed(int sign) {
            if (sign < 0 || sign > 127) {
                return -2;
            }
            if (text.length() == 100) {
                return -4;
            }
            text += (char) sign;
            return text.length();
        }

        /** Whether some set-up begins with a text. */
        static boolean begins(String text) {
            String[] clauses = text.split(";", -1);
            if (clauses.length > 12) {
                return false;
            }
            for (int i = 0; i < clauses.length; i++) {
                boolean last = i == clauses.length - 1;
                String form = last ? "([nk]\\d?|[stc]\\d{0,5}|l\\d{0,2})?" : "[nk]\\d|[stc]\\d{1,5}|l\\d\\d";
                if (!clauses[i].matches(form)) {
                    return false;
                }
            }
            return true;
        }

        int read() {
            String all = text;
            text = "";
            for (int i = 0; i < all.length(); i++) {
                if (!begins(all.substring(0, i + 1))) {
                    return -10 - i;
                }
            }
            String clause = "([nk]\\d|[stc]\\d{1,5}|l\\d\\d)";
            if (!all.matches(clause + "(;" + clause + "){0,11}")) {
                return -10 - all.length();
            }
            int done = 0;
            for (String c : all.split(";")) {
                done += doClause(c) >= 0 ? 1 : 0;
            }
            return done;
        }

        private int doClause(String c) {
            int first = c.charAt(1) - '0';
            if (c.charAt(0) == 'n') {
                return points(first);
            }
            if (c.charAt(0) == 'k') {
                return make(first);
            }
            int set = 0;
            for (int i = 1; i < c.length(); i++) {
                int p = c.charAt(i) - '0';
                if (p >= n) {
                    return -1;
                }
                set |= 1 << p;
            }
            switch (c.charAt(0)) {
                case 's': return comes(set);
                case 't': return goes(set);
                case 'c': return choose(set);
                default: int b = c.charAt(2) - '0';
                    return line(first, b, lines.contains(pair(first, b)) ? 0 : 1);
            }
        }

        int family(int i) {
            return i < 0 ? -1 : i < fam.size() ? new ArrayList<>(fam).get(i) : -5;
        }

        List<Integer> inside(int set) {
            List<Integer> in = new ArrayList<>();
            for (int s : fam) {
                if ((s | set) == set) {
                    in.add(s);
                }
            }
            return in;
        }

        List<Integer> parts(int set) {
            List<Integer> parts = new ArrayList<>();
            for (int s : inside(set)) {
                boolean inOther = false;
                for (int t : inside(set)) {
                    inOther |= t != s && (s | t) == t;
                }
                if (!inOther) {
                    parts.add(s);
                }
            }
            return parts;
        }

        int of(int s, int what) {
            if (!isSet(s) || what < 0 || what > 3) {
                return -1;
            }
            int[] answers = {fam.contains(s) ? 1 : 0, inside(s).size(), parts(s).size(), Integer.bitCount(s)};
            return answers[what];
        }

        int part(int s, int k) {
            if (!isSet(s) || k < 0) {
                return -1;
            }
            return k < parts(s).size() ? parts(s).get(k) : -5;
        }

        List<Integer> cornersWith(List<Integer> sets) {
            List<Integer> with = new ArrayList<>();
            for (int c = 0; c < shape().corners.size(); c++) {
                if (shape().corners.get(c).containsAll(sets)) {
                    with.add(c);
                }
            }
            return with;
        }

        int told(int what) {
            switch (what) {
                case 0: return n;
                case 1: return fam.size();
                case 2: return shape().corners.size();
                case 3: return shape().farthest();
                case 4: return lines.size();
                case 5: return picked.size();
                case 6: return cornersWith(picked).size();
                case 7: return cornersWith(picked).get(0);
                default: return -1;
            }
        }

        int chosen(int i) {
            return i < 0 ? -1 : i < picked.size() ? picked.get(i) : -5;
        }

        int nests(int k) {
            return k < 0 || k >= n ? -2 : shape().nestCounts[k];
        }

        int risen(int k) {
            if (k < 0 || k >= n) {
                return -2;
            }
            int count = 0;
            for (int c = 0; c < shape().corners.size(); c++) {
                count += shape().rises(c) == k ? 1 : 0;
            }
            return count;
        }

        boolean isCorner(int c) {
            return c >= 0 && c < shape().corners.size();
        }

        int at(int c, int p) {
            return isCorner(c) && isPoint(p) ? shape().stands.get(c)[p] : -1;
        }

        int set(int c, int k) {
            return isCorner(c) && k >= 0 && k <= n - 2 ? shape().corners.get(c).get(k) : -1;
        }

        int flip(int c, int k) {
            return isCorner(c) && k >= 0 && k <= n - 2 ? shape().flips[c][k] : -1;
        }

        int corner(int c, int what) {
            if (!isCorner(c) || what < 0 || what > 2) {
                return -1;
            }
            return what == 0 ? shape().rises(c) : what == 1 ? shape().ordersTo(c) : shape().worth(c);
        }

        int steps(int one, int other) {
            return isCorner(one) && isCorner(other) ? shape().steps[one][other] : -1;
        }

        int face(int s, int what) {
            if (!fam.contains(s) || s == whole() || what < 0 || what > 2) {
                return -1;
            }
            List<Integer> on = cornersWith(List.of(s));
            if (what < 2) {
                return what == 0 ? on.size() : on.get(0);
            }
            int least = 99999;
            for (int[] at : shape().stands) {
                int sum = 0;
                for (int p = 0; p < n; p++) {
                    sum += (s >> p & 1) != 0 ? at[p] : 0;
                }
                least = Math.min(least, sum);
            }
            return least;
        }

        int leads(int number) {
            for (List<Integer> order : orders(n)) {
                StringBuilder digits = new StringBuilder();
                for (int p : order) {
                    digits.append(p + 1);
                }
                if (digits.toString().equals("" + number)) {
                    Integer[] at = shape().leads(order);
                    for (int c = 0; c < shape().corners.size(); c++) {
                        boolean like = true;
                        for (int p = 0; p < n; p++) {
                            like &= shape().stands.get(c)[p] == at[p];
                        }
                        if (like) {
                            return c;
                        }
                    }
                    return -99;
                }
            }
            return -2;
        }

        int see(int k, int count) {
            if (k == -1) {
                seen.clear();
                return 0;
            }
            return k < 0 || k > 4 ? -1 : count < 0 || count > 999 ? -2 : add(seen, k, count, 4);
        }

        private static int add(List<int[]> rows, int a, int b, int room) {
            if (rows.size() == room) {
                return -4;
            }
            rows.add(new int[] {a, b});
            return rows.size();
        }

        int fits() {
            int bits = 0;
            for (int kind = 0; kind < 7; kind++) {
                Shape made = shape(n, made(n, lines, kind));
                boolean all = true;
                for (int[] row : seen) {
                    all &= (row[0] > n - 1 ? 0 : made.nestCounts[row[0]]) == row[1];
                }
                bits += all ? 1 << kind : 0;
            }
            return bits;
        }

        private static long lowest(int above, int below, int part) {
            int a = above;
            int b = below;
            for (int d = 2; d <= b; d++) {
                while (a % d == 0 && b % d == 0) {
                    a /= d;
                    b /= d;
                }
            }
            return part == 0 ? a : b;
        }

        long odds(int c, int part) {
            if (!isCorner(c) || part < 0 || part > 1) {
                return Long.MIN_VALUE;
            }
            return lowest(shape().ordersTo(c), orders(n).size(), part);
        }

        long mean(int p, int part) {
            if (!isPoint(p) || part < 0 || part > 1) {
                return Long.MIN_VALUE;
            }
            int sum = 0;
            for (int[] at : shape().stands) {
                sum += at[p];
            }
            return lowest(sum, shape().stands.size(), part);
        }

        int event(int what, int count) {
            if (what == -1) {
                events.clear();
                return 0;
            }
            if (what < 0 || what > 3 || what < 2 && !isSet(count) || what == 2 && (count < 0 || count > 6)) {
                return -1;
            }
            return what == 3 && (count < 0 || count > 99) ? -2 : add(events, what, count, 8);
        }

        int after(int what) {
            if (what < 0 || what > 2) {
                return -1;
            }
            Model later = copy();
            for (int[] e : events) {
                if (e[0] == 0) {
                    later.comes(e[1]);
                } else if (e[0] == 1) {
                    later.goes(e[1]);
                } else if (e[0] == 2) {
                    later.make(e[1]);
                } else {
                    int a = e[1] / 10;
                    int b = e[1] % 10;
                    later.line(a, b, later.lines.contains(pair(a, b)) ? 0 : 1);
                }
            }
            return later.told(what + 1);
        }

        int book(int s, int is) {
            if (s == -1) {
                bookRows.clear();
                return 0;
            }
            return !isSet(s) ? -1 : is < 0 || is > 1 ? -2 : add(bookRows, s, is, 8);
        }

        int looked() {
            for (int i = 0; i < bookRows.size(); i++) {
                if (fam.contains(bookRows.get(i)[0]) != (bookRows.get(i)[1] == 1)) {
                    return i;
                }
            }
            return -5;
        }

        int judge(int t, int i) {
            if (t < 0 || t > 5) {
                return -1;
            }
            if (sorts[t] != -1 && sorts[t] != 1) {
                return -12;
            }
            if (sorts[t] == -1 || i < 0) {
                return 100;
            }
            int looked = 0;
            for (int s : fam) {
                if ((long) i + looked >= tapes[t].length) {
                    return 100 + looked;
                }
                if (tapes[t][i + looked] != s) {
                    return looked;
                }
                looked++;
            }
            return -5;
        }

        Model copy() {
            Model other = new Model();
            other.take(this);
            return other;
        }

        void take(Model other) {
            n = other.n;
            fam = new TreeSet<>(other.fam);
            lines = new HashSet<>(other.lines);
            picked = new ArrayList<>(other.picked);
            seen = new ArrayList<>(other.seen);
            events = new ArrayList<>(other.events);
            bookRows = new ArrayList<>(other.bookRows);
        }

        int image() {
            kept = copy();
            return fam.size();
        }

        int undo() {
            if (kept == null) {
                return -3;
            }
            take(kept);
            return fam.size();
        }

        int count(int what) {
            switch (what) {
                case 0: return seen.size();
                case 1: return events.size();
                case 2: return bookRows.size();
                case 3: return text.length();
                default: return -2;
            }
        }

        int tape(int t, int sort, int count) {
            if (t < 0 || t > 5) {
                return -1;
            }
            if (sort < -1 || sort > 4 || sort != -1 && count > 60) {
                return -2;
            }
            if (sort != -1 && count < 0) {
                return -14;
            }
            sorts[t] = sort;
            tapes[t] = sort == -1 ? null : new long[count];
            return 1;
        }

        int item(int t, int i, long v) {
            if (t < 0 || t > 5) {
                return -1;
            }
            if (sorts[t] == -1) {
                return -11;
            }
            if (i < 0 || i >= tapes[t].length) {
                return -13;
            }
            long[] cuts = {(byte) v, (short) v, (int) v, v, v == 0 ? 0 : 1};
            tapes[t][i] = cuts[sorts[t]];
            return 1;
        }

        long peek(int t, int i) {
            if (t < 0 || t > 5 || sorts[t] == -1 || i < 0 || i >= tapes[t].length) {
                return Long.MIN_VALUE;
            }
            return tapes[t][i];
        }

        int shift(int t, int i, int o, int j, int count) {
            if (t < 0 || t > 5 || o < 0 || o > 5) {
                return -1;
            }
            if (sorts[t] == -1 || sorts[o] == -1) {
                return -11;
            }
            if (sorts[t] != sorts[o]) {
                return -12;
            }
            if (count < 0 || i < 0 || j < 0 || (long) i + count > tapes[t].length
                || (long) j + count > tapes[o].length) {
                return -13;
            }
            long[] before = tapes[t].clone();
            for (int k = 0; k < count; k++) {
                tapes[o][j + k] = before[i + k];
            }
            return count;
        }
    }
}
