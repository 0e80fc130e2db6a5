/** Each promise of the document by itself: ordinary calls, the edges it names, and wrong calls. */
public final class PromisesTest {
    private static final long NO = Long.MIN_VALUE;
    private static final int LEAST = Integer.MIN_VALUE, MOST = Integer.MAX_VALUE;
    private static int wrong = 0;
    private static int asked = 0;

    private static void due(int promise, String call, long got, long want) {
        asked++;
        if (got != want) {
            wrong++;
            System.out.println("promise " + promise + ": " + call + " answered " + got + ", due is " + want);
        }
    }

    public static void main(String[] args) {
        newObject();
        points();
        make();
        comes();
        goes();
        line();
        choose();
        drop();
        feed();
        read();
        faults();
        family();
        ofAndPart();
        told();
        chosen();
        nestsAndRisen();
        cornersOfPath();
        cornersOfAll();
        steps();
        face();
        leads();
        see();
        fits();
        oddsAndMean();
        event();
        after();
        book();
        judge();
        imageAndUndo();
        count();
        tapes();
        shift();
        System.out.println(asked + " calls, " + wrong + " wrong");
        if (wrong != 0) {
            System.exit(1);
        }
    }

    private static NestedBodies made(int n, int kind) {
        NestedBodies x = new NestedBodies();
        x.points(n);
        x.make(kind);
        return x;
    }

    private static int text(NestedBodies x, String text) {
        for (int i = 0; i < text.length(); i++) {
            x.feed(text.charAt(i));
        }
        return x.read();
    }

    private static void newObject() {
        NestedBodies x = new NestedBodies();
        due(1, "told(0)", x.told(0), 4);
        int[] bare = {1, 2, 4, 8, 15, -5};
        for (int i = 0; i < bare.length; i++) {
            due(1, "family(" + i + ")", x.family(i), bare[i]);
        }
        due(1, "told(4)", x.told(4), 0);
        due(1, "told(5)", x.told(5), 0);
        for (int what = 0; what < 4; what++) {
            due(1, "count(" + what + ")", x.count(what), 0);
        }
        for (int t = 0; t < 6; t++) {
            due(1, "item of tape " + t, x.item(t, 0, 1), -11);
        }
        due(1, "undo()", x.undo(), -3);
    }

    private static void points() {
        NestedBodies x = new NestedBodies();
        for (int n : new int[] {LEAST, -1, 0, 1, 6, MOST}) {
            due(2, "points(" + n + ")", x.points(n), -2);
        }
        due(2, "points(2)", x.points(2), 4);
        due(2, "told(1)", x.told(1), 3);
        due(2, "points(5)", x.points(5), 2);
        due(2, "told(1)", x.told(1), 6);
        x.line(0, 1, 1);
        x.make(3);
        x.choose(3);
        due(2, "points(1), which changes nothing", x.points(1), -2);
        due(2, "told(1)", x.told(1), 31);
        due(2, "told(5)", x.told(5), 1);
        due(2, "points(5) as it was", x.points(5), 5);
        due(2, "told(1)", x.told(1), 6);
        due(2, "told(4)", x.told(4), 0);
        due(2, "told(5)", x.told(5), 0);
        x.see(0, 1);
        x.event(2, 3);
        x.book(31, 1);
        x.feed('n');
        due(2, "points(3)", x.points(3), 5);
        for (int what = 0; what < 4; what++) {
            due(2, "points leaves count " + what, x.count(what), 1);
        }
    }

    private static void make() {
        int[][] sizes = {{3, 3, 3, 3, 3, 3, 3}, {4, 6, 7, 7, 6, 5, 4}, {5, 10, 13, 15, 11, 7, 5},
            {6, 15, 21, 31, 20, 9, 6}};
        for (int n = 2; n <= 5; n++) {
            for (int kind = 0; kind < 7; kind++) {
                NestedBodies x = new NestedBodies();
                x.points(n);
                due(3, "make(" + kind + ") of " + n, x.make(kind), sizes[n - 2][kind]);
            }
        }
        NestedBodies x = new NestedBodies();
        for (int kind : new int[] {LEAST, -1, 7, MOST}) {
            due(3, "make(" + kind + ")", x.make(kind), -1);
        }
        x.choose(1);
        due(3, "make(7) keeps CHOSEN", x.make(7) * 10 + x.told(5), -9);
        due(3, "make(0)", x.make(0), 5);
        due(3, "made anew, none is CHOSEN", x.told(5), 0);
        due(3, "RING has 9", made(4, 2).of(9, 0), 1);
        due(3, "PATH hasn't 9", made(4, 1).of(9, 0), 0);
        due(3, "RING hasn't 5", made(4, 2).of(5, 0), 0);
        due(3, "STAR has 9", made(4, 4).of(9, 0), 1);
        due(3, "STAR hasn't 6", made(4, 4).of(6, 0), 0);
        due(3, "CHAIN has 7", made(4, 5).of(7, 0), 1);
        due(3, "CHAIN hasn't 6", made(4, 5).of(6, 0), 0);
        x.line(0, 2, 1);
        x.line(3, 2, 1);
        due(3, "LINED", x.make(6), 8);
        int[] lined = {1, 2, 4, 5, 8, 12, 13, 15};
        for (int i = 0; i < lined.length; i++) {
            due(3, "LINED family(" + i + ")", x.family(i), lined[i]);
        }
    }

    private static void comes() {
        NestedBodies x = new NestedBodies();
        for (int set : new int[] {LEAST, -1, 0, 16, 31, 32, MOST}) {
            due(4, "comes(" + set + ")", x.comes(set), -1);
        }
        due(4, "comes(3)", x.comes(3), 6);
        due(4, "choose(3)", x.choose(3), 1);
        due(4, "comes(3) that is there", x.comes(3), 6);
        due(4, "CHOSEN stays", x.told(5), 1);
        due(4, "comes(0) changes nothing", x.comes(0) * 10 + x.told(5), -9);
        due(4, "comes(12), which meets none", x.comes(12), 7);
        due(4, "CHOSEN goes", x.told(5), 0);
        due(4, "comes(6): 7, 14 come too", x.comes(6), 10);
        due(4, "of(7, 0)", x.of(7, 0), 1);
        due(4, "of(14, 0)", x.of(14, 0), 1);
        x.points(5);
        x.comes(3);
        x.comes(24);
        due(4, "comes(12): 3 24 12 28", x.comes(12), 10);
        due(4, "comes(6): a path", x.comes(6), 15);
    }

    private static void goes() {
        NestedBodies x = made(4, 1);
        for (int set : new int[] {LEAST, -1, 0, 5, 16, MOST}) {
            due(5, "goes(" + set + ")", x.goes(set), -1);
        }
        for (int set : new int[] {1, 2, 4, 8, 15, 7, 14}) {
            due(5, "goes(" + set + ")", x.goes(set), -3);
        }
        x.choose(1);
        due(5, "goes(7) changes nothing", x.goes(7) * 100 + x.told(1) + x.told(5), -289);
        due(5, "goes(3)", x.goes(3), 9);
        due(5, "CHOSEN goes", x.told(5), 0);
        due(5, "goes(3) again", x.goes(3), -1);
        due(5, "goes(7) then", x.goes(7), 8);
        due(5, "of(7, 0)", x.of(7, 0), 0);
    }

    private static void line() {
        NestedBodies x = new NestedBodies();
        int[][] none = {{0, 0}, {3, 3}, {-1, 0}, {0, -1}, {4, 0}, {0, 4}, {LEAST, 0}, {0, MOST}};
        for (int[] pair : none) {
            due(6, "line(" + pair[0] + ", " + pair[1] + ", 1)", x.line(pair[0], pair[1], 1), -1);
            due(6, "line, NONE ahead of BAD", x.line(pair[0], pair[1], 2), -1);
        }
        for (int is : new int[] {LEAST, -1, 2, MOST}) {
            due(6, "line(0, 1, " + is + ")", x.line(0, 1, is), -2);
        }
        due(6, "line(0, 1, 1)", x.line(0, 1, 1), 0);
        due(6, "line(1, 0, 1)", x.line(1, 0, 1), 1);
        due(6, "told(4)", x.told(4), 1);
        x.choose(1);
        due(6, "line(3, 2, 1)", x.line(3, 2, 1), 0);
        due(6, "told(4)", x.told(4), 2);
        due(6, "THE FAMILY stays", x.told(1), 5);
        due(6, "CHOSEN stays", x.told(5), 1);
        due(6, "line(1, 0, 0)", x.line(1, 0, 0), 1);
        due(6, "line(0, 1, 0)", x.line(0, 1, 0), 0);
        due(6, "told(4)", x.told(4), 1);
        x.points(5);
        for (int a = 0; a < 5; a++) {
            for (int b = a + 1; b < 5; b++) {
                due(6, "each line", x.line(a, b, 1), 0);
            }
        }
        due(6, "told(4)", x.told(4), 10);
        due(6, "all hang together", x.make(6), 31);
    }

    private static void choose() {
        NestedBodies x = new NestedBodies();
        for (int set : new int[] {LEAST, -1, 0, 3, 15, 16, MOST}) {
            due(7, "choose(" + set + ")", x.choose(set), -1);
        }
        due(7, "choose(8)", x.choose(8), 1);
        due(7, "choose(8) again", x.choose(8), -3);
        due(7, "choose(1)", x.choose(1), 2);
        due(7, "choose(4)", x.choose(4), 3);
        due(7, "choose(2): all make WHOLE", x.choose(2), -3);
        due(7, "told(5)", x.told(5), 3);
        x = made(5, 1);
        due(7, "choose(3)", x.choose(3), 1);
        due(7, "choose(6) crosses it", x.choose(6), -3);
        due(7, "choose(4) makes 7 with it", x.choose(4), -3);
        due(7, "choose(16)", x.choose(16), 2);
        due(7, "choose(8) makes 24 with 16", x.choose(8), -3);
        due(7, "choose(2)", x.choose(2), 3);
        due(7, "choose(15) around 3", x.choose(15), -3);
        due(7, "choose(7) around 3", x.choose(7), 4);
        due(7, "choose(1)", x.choose(1), -3);
        due(7, "told(6)", x.told(6), 1);
    }

    private static void drop() {
        NestedBodies x = made(4, 1);
        for (int set : new int[] {LEAST, -1, 0, 1, 3, 15, MOST}) {
            due(8, "drop(" + set + ")", x.drop(set), -1);
        }
        x.choose(1);
        x.choose(3);
        x.choose(7);
        due(8, "drop(3)", x.drop(3), 2);
        due(8, "drop(3) again", x.drop(3), -1);
        due(8, "chosen(0)", x.chosen(0), 1);
        due(8, "chosen(1)", x.chosen(1), 7);
        due(8, "chosen(2)", x.chosen(2), -5);
        due(8, "drop(7)", x.drop(7), 1);
        due(8, "drop(1)", x.drop(1), 0);
    }

    private static void feed() {
        NestedBodies x = new NestedBodies();
        for (int sign : new int[] {LEAST, -1, 128, MOST}) {
            due(9, "feed(" + sign + ")", x.feed(sign), -2);
        }
        for (int i = 1; i <= 100; i++) {
            due(9, "feed", x.feed(i % 2 == 0 ? 0 : 127), i);
        }
        due(9, "feed, the 101st", x.feed('n'), -4);
        due(9, "feed, BAD ahead of FULL", x.feed(128), -2);
        due(9, "count(3)", x.count(3), 100);
        due(9, "read()", x.read(), -10);
        due(9, "feed", x.feed('n'), 1);
    }

    private static void read() {
        NestedBodies x = new NestedBodies();
        due(10, "n5", text(x, "n5"), 1);
        due(10, "told(0)", x.told(0), 5);
        due(10, "k1;c34;c4;c3", text(x, "k1;c34;c4;c3"), 3);
        due(10, "chosen(0)", x.chosen(0), 24);
        due(10, "chosen(1)", x.chosen(1), 16);
        due(10, "l01;l10;l23;l12", text(x, "l01;l10;l23;l12"), 4);
        due(10, "told(4)", x.told(4), 2);
        due(10, "l11;l05;l90", text(x, "l11;l05;l90"), 0);
        due(10, "s04", text(x, "s04"), 1);
        due(10, "told(1)", x.told(1), 21);
        due(10, "t04;t04;t0;t01234;t012", text(x, "t04;t04;t0;t01234;t012"), 1);
        due(10, "told(1)", x.told(1), 20);
        due(10, "n0;n1;n6;n9;k7;k9", text(x, "n0;n1;n6;n9;k7;k9"), 0);
        due(10, "s05 with a POINT that isn't there", text(x, "s05"), 0);
        due(10, "s00000", text(x, "s00000"), 1);
        due(10, "n3;s03;n4;s03", text(x, "n3;s03;n4;s03"), 3);
        due(10, "of(9, 0)", x.of(9, 0), 1);
        due(10, "twelve", text(x, "k0;k1;k2;k3;k4;k5;k6;k0;k1;k2;k3;s01234"), 11);
        due(10, "told(1)", x.told(1), 15);
        due(10, "c of WHOLE", text(x, "c0123"), 0);
        due(10, "count(3)", x.count(3), 0);
    }

    private static void faults() {
        NestedBodies x = made(4, 1);
        String[] texts = {"", "x", "n", "nn", "n45", "n4 ", " n4", "n4;", "n4;;", ";n4", "k", "k;", "l", "l0", "l0;",
            "l012", "s", "s;", "s012340", "s01234x", "t", "c", "cx", "s0x", "N4", "n4,k1", "k1;l01;x",
            "k0;k1;k2;k3;k4;k5;k6;k0;k1;k2;k3;k4;", "k0;k1;k2;k3;k4;k5;k6;k0;k1;k2;k3;k4;k5",
            "k0;k1;k2;k3;k4;k5;k6;k0;k1;k2;k3;", "k0;k1;k2;k3;k4;k5;k6;k0;k1;k2;k3;k"};
        int[] places = {0, 0, 1, 1, 2, 2, 0, 3, 3, 0, 1, 1, 1, 2, 2,
            3, 1, 1, 6, 6, 1, 1, 1, 2, 0, 2, 7, 35, 35, 33, 34};
        for (int i = 0; i < texts.length; i++) {
            due(10, "read of '" + texts[i] + "'", text(x, texts[i]), -10 - places[i]);
            due(10, "THE TEXT is empty then", x.count(3), 0);
        }
        due(10, "a FAULT changes nothing", x.told(1), 10);
    }

    private static void family() {
        NestedBodies x = made(3, 1);
        int[] path = {1, 2, 3, 4, 6, 7, -5};
        for (int i = 0; i < path.length; i++) {
            due(11, "family(" + i + ")", x.family(i), path[i]);
        }
        due(11, "family(MOST)", x.family(MOST), -5);
        due(11, "family(-1)", x.family(-1), -1);
        due(11, "family(LEAST)", x.family(LEAST), -1);
        x = made(5, 3);
        due(11, "family(30)", x.family(30), 31);
        due(11, "family(31)", x.family(31), -5);
    }

    private static void ofAndPart() {
        NestedBodies x = made(4, 1);
        int[][] of = {{3, 1, 3, 1, 2}, {5, 0, 2, 2, 2}, {11, 0, 4, 2, 3}, {15, 1, 10, 1, 4}, {8, 1, 1, 1, 1}};
        for (int[] row : of) {
            for (int what = 0; what < 4; what++) {
                due(12, "of(" + row[0] + ", " + what + ")", x.of(row[0], what), row[what + 1]);
            }
        }
        int[][] none = {{0, 0}, {-1, 0}, {16, 0}, {LEAST, 1}, {MOST, 1}, {3, -1}, {3, 4}, {3, MOST}};
        for (int[] row : none) {
            due(12, "of(" + row[0] + ", " + row[1] + ")", x.of(row[0], row[1]), -1);
        }
        due(13, "part(11, 0)", x.part(11, 0), 3);
        due(13, "part(11, 1)", x.part(11, 1), 8);
        due(13, "part(11, 2)", x.part(11, 2), -5);
        due(13, "part(13, 0)", x.part(13, 0), 1);
        due(13, "part(13, 1)", x.part(13, 1), 12);
        due(13, "part(15, 0)", x.part(15, 0), 15);
        due(13, "part(15, MOST)", x.part(15, MOST), -5);
        int[][] noPart = {{0, 0}, {-1, 0}, {16, 0}, {3, -1}, {3, LEAST}, {MOST, 0}};
        for (int[] row : noPart) {
            due(13, "part(" + row[0] + ", " + row[1] + ")", x.part(row[0], row[1]), -1);
        }
        x = made(5, 3);
        due(13, "part(31, 0)", x.part(31, 0), 31);
        due(12, "of(31, 1)", x.of(31, 1), 31);
    }

    private static void told() {
        NestedBodies x = made(5, 1);
        x.line(0, 1, 1);
        x.choose(24);
        x.choose(16);
        int[] answers = {5, 15, 42, 5, 1, 2, 5};
        for (int what = 0; what < answers.length; what++) {
            due(14, "told(" + what + ")", x.told(what), answers[what]);
        }
        int first = x.told(7);
        due(14, "told(7) has 24", x.set(first, 3) == 24 || x.set(first, 2) == 24 ? 1 : 0, 1);
        for (int c = 0; c < first; c++) {
            boolean has24 = false;
            boolean has16 = false;
            for (int k = 0; k < 4; k++) {
                has24 |= x.set(c, k) == 24;
                has16 |= x.set(c, k) == 16;
            }
            due(14, "none ahead of told(7) has both", has24 && has16 ? 1 : 0, 0);
        }
        for (int what : new int[] {LEAST, -1, 8, MOST}) {
            due(14, "told(" + what + ")", x.told(what), -1);
        }
        int[][] counts = {{2, 3, 2, 1}, {5, 6, 5, 1}, {5, 31, 120, 10}};
        int[] kinds = {3, 0, 3};
        for (int i = 0; i < counts.length; i++) {
            NestedBodies y = made(counts[i][0], kinds[i]);
            for (int what = 0; what < 4; what++) {
                due(14, "told(" + what + ")", y.told(what), counts[i][what]);
            }
            due(14, "told(6), none CHOSEN", y.told(6), counts[i][2]);
            due(14, "told(7), none CHOSEN", y.told(7), 0);
        }
    }

    private static void chosen() {
        NestedBodies x = made(4, 3);
        due(15, "chosen(0)", x.chosen(0), -5);
        x.choose(14);
        x.choose(2);
        x.choose(6);
        int[] came = {14, 2, 6, -5};
        for (int i = 0; i < came.length; i++) {
            due(15, "chosen(" + i + ")", x.chosen(i), came[i]);
        }
        due(15, "chosen(-1)", x.chosen(-1), -1);
        due(15, "chosen(LEAST)", x.chosen(LEAST), -1);
        due(15, "chosen(MOST)", x.chosen(MOST), -5);
    }

    private static void nestsAndRisen() {
        // paths: Narayana's numbers; rings: squares of binomials; all: Euler's numbers
        int[][] nests = {{1, 14, 56, 84, 42}, {1, 20, 90, 140, 70}, {1, 30, 150, 240, 120}};
        int[][] risen = {{1, 10, 20, 10, 1}, {1, 16, 36, 16, 1}, {1, 26, 66, 26, 1}};
        for (int kind = 1; kind <= 3; kind++) {
            NestedBodies x = made(5, kind);
            for (int k = 0; k < 5; k++) {
                due(16, "nests(" + k + ") of " + kind, x.nests(k), nests[kind - 1][k]);
                due(17, "risen(" + k + ") of " + kind, x.risen(k), risen[kind - 1][k]);
            }
            for (int k : new int[] {LEAST, -1, 5, MOST}) {
                due(16, "nests(" + k + ")", x.nests(k), -2);
                due(17, "risen(" + k + ")", x.risen(k), -2);
            }
        }
        NestedBodies x = made(2, 0);
        due(16, "nests(0) of 2", x.nests(0), 1);
        due(16, "nests(1) of 2", x.nests(1), 2);
        due(16, "nests(2) of 2", x.nests(2), -2);
        due(17, "risen(0) of 2", x.risen(0), 1);
        due(17, "risen(1) of 2", x.risen(1), 1);
        due(17, "risen(2) of 2", x.risen(2), -2);
    }

    private static void cornersOfPath() {
        NestedBodies x = made(3, 1);
        int[][] at = {{1, 2, 3}, {1, 4, 1}, {2, 1, 3}, {3, 1, 2}, {3, 2, 1}};
        int[][] sets = {{1, 3}, {1, 4}, {2, 3}, {2, 6}, {4, 6}};
        int[][] flips = {{2, 1}, {4, 0}, {0, 3}, {4, 2}, {3, 1}};
        int[][] corner = {{2, 1, 321}, {1, 2, 141}, {1, 1, 312}, {1, 1, 213}, {0, 1, 123}};
        for (int c = 0; c < 5; c++) {
            for (int i = 0; i < 3; i++) {
                due(18, "at(" + c + ", " + i + ")", x.at(c, i), at[c][i]);
                due(21, "corner(" + c + ", " + i + ")", x.corner(c, i), corner[c][i]);
            }
            for (int k = 0; k < 2; k++) {
                due(19, "set(" + c + ", " + k + ")", x.set(c, k), sets[c][k]);
                due(20, "flip(" + c + ", " + k + ")", x.flip(c, k), flips[c][k]);
            }
        }
        int[][] none = {{-1, 0}, {5, 0}, {0, -1}, {0, 3}, {LEAST, 0}, {MOST, 0}, {0, LEAST}, {0, MOST}};
        for (int[] row : none) {
            due(18, "at(" + row[0] + ", " + row[1] + ")", x.at(row[0], row[1]), -1);
            due(19, "set(" + row[0] + ", " + row[1] + ")", x.set(row[0], row[1]), -1);
            due(20, "flip(" + row[0] + ", " + row[1] + ")", x.flip(row[0], row[1]), -1);
            due(21, "corner(" + row[0] + ", " + row[1] + ")", x.corner(row[0], row[1]), -1);
        }
        due(19, "set(0, 2)", x.set(0, 2), -1);
        due(20, "flip(0, 2)", x.flip(0, 2), -1);
    }

    private static void cornersOfAll() {
        NestedBodies x = made(5, 3);
        // for ALL they stand AT 1, 2, 4, 8, 16, in any order: WORTH has tens that carry
        for (int p = 0; p < 5; p++) {
            due(18, "at(0, " + p + ")", x.at(0, p), 1 << p);
            due(18, "at(119, " + p + ")", x.at(119, p), 16 >> p);
        }
        due(21, "corner(0, 2)", x.corner(0, 2), 1 + 20 + 400 + 8000 + 160000);
        due(21, "corner(119, 2)", x.corner(119, 2), 16 + 80 + 400 + 2000 + 10000);
        due(21, "corner(0, 0)", x.corner(0, 0), 4);
        due(21, "corner(119, 0)", x.corner(119, 0), 0);
        due(19, "set(0, 3)", x.set(0, 3), 15);
        due(19, "set(119, 0)", x.set(119, 0), 16);
        due(19, "set(119, 3)", x.set(119, 3), 30);
        due(20, "flip(119, 3)", x.flip(119, 3), 119 - 24);
        NestedBodies two = new NestedBodies();
        two.points(2);
        due(20, "flip(0, 0) of 2", two.flip(0, 0), 1);
        due(20, "flip(1, 0) of 2", two.flip(1, 0), 0);
        due(18, "at(0, 1) of 2", two.at(0, 1), 2);
        x.make(0);
        due(18, "after make, at(0, 4)", x.at(0, 4), 2);
        due(18, "after make, at(5, 0)", x.at(5, 0), -1);
    }

    private static void steps() {
        NestedBodies x = made(3, 1);
        int[][] steps = {{0, 1, 1, 2, 2}, {1, 0, 2, 2, 1}, {1, 2, 0, 1, 2}, {2, 2, 1, 0, 1}, {2, 1, 2, 1, 0}};
        for (int a = 0; a < 5; a++) {
            for (int b = 0; b < 5; b++) {
                due(22, "steps(" + a + ", " + b + ")", x.steps(a, b), steps[a][b]);
            }
        }
        int[][] none = {{-1, 0}, {0, -1}, {5, 0}, {0, 5}, {LEAST, 0}, {0, MOST}, {5, 5}};
        for (int[] row : none) {
            due(22, "steps(" + row[0] + ", " + row[1] + ")", x.steps(row[0], row[1]), -1);
        }
        x = made(5, 3);
        due(22, "steps(0, 119)", x.steps(0, 119), 10);
        due(22, "steps(0, 1)", x.steps(0, 1), 1);
    }

    private static void face() {
        NestedBodies x = made(3, 1);
        int[][] faces = {{1, 2, 0, 1}, {2, 2, 2, 1}, {3, 2, 0, 3}, {4, 2, 1, 1}, {6, 2, 3, 3}};
        for (int[] row : faces) {
            for (int what = 0; what < 3; what++) {
                due(23, "face(" + row[0] + ", " + what + ")", x.face(row[0], what), row[what + 1]);
            }
        }
        int[][] none = {{0, 0}, {-1, 0}, {5, 0}, {7, 0}, {8, 0}, {LEAST, 0}, {MOST, 0}, {1, -1}, {1, 3}, {1, MOST}};
        for (int[] row : none) {
            due(23, "face(" + row[0] + ", " + row[1] + ")", x.face(row[0], row[1]), -1);
        }
        x = made(5, 3);
        due(23, "face(16, 0)", x.face(16, 0), 24);
        due(23, "face(24, 0)", x.face(24, 0), 12);
        due(23, "face(24, 2)", x.face(24, 2), 3);
        due(23, "face(30, 1)", x.face(30, 1), 96);
    }

    private static void leads() {
        NestedBodies x = made(3, 1);
        int[][] led = {{123, 4}, {132, 3}, {213, 1}, {231, 1}, {312, 2}, {321, 0}};
        for (int[] row : led) {
            due(24, "leads(" + row[0] + ")", x.leads(row[0]), row[1]);
        }
        int[] bad = {LEAST, -123, -1, 0, 1, 12, 21, 102, 120, 112, 124, 411, 1123, 1230, 3210, 12345, MOST};
        for (int order : bad) {
            due(24, "leads(" + order + ")", x.leads(order), -2);
        }
        x = made(5, 3);
        due(24, "leads(54321)", x.leads(54321), 0);
        due(24, "leads(12345)", x.leads(12345), 119);
        due(24, "leads(12346)", x.leads(12346), -2);
        due(24, "leads(123451)", x.leads(123451), -2);
        x = made(2, 0);
        due(24, "leads(12) of 2", x.leads(12), 1);
        due(24, "leads(21) of 2", x.leads(21), 0);
        due(24, "leads(11) of 2", x.leads(11), -2);
        due(24, "leads(123) of 2", x.leads(123), -2);
    }

    private static void see() {
        NestedBodies x = new NestedBodies();
        for (int k : new int[] {LEAST, -2, 5, MOST}) {
            due(25, "see(" + k + ", 0)", x.see(k, 0), -1);
            due(25, "see, NONE ahead of BAD", x.see(k, -1), -1);
        }
        for (int n : new int[] {LEAST, -1, 1000, MOST}) {
            due(25, "see(0, " + n + ")", x.see(0, n), -2);
        }
        due(25, "see(4, 999)", x.see(4, 999), 1);
        due(25, "see(0, 0)", x.see(0, 0), 2);
        due(25, "see(0, 0)", x.see(0, 0), 3);
        due(25, "see(1, 7)", x.see(1, 7), 4);
        due(25, "see, a fifth", x.see(1, 7), -4);
        due(25, "see, BAD ahead of FULL", x.see(1, 1000), -2);
        due(25, "see, NONE ahead of FULL", x.see(5, 0), -1);
        due(25, "count(0)", x.count(0), 4);
        due(25, "see(-1, -7)", x.see(-1, -7), 0);
        due(25, "count(0)", x.count(0), 0);
    }

    private static void fits() {
        NestedBodies x = new NestedBodies();
        due(26, "fits() with none SEEN", x.fits(), 127);
        x.see(0, 1);
        due(26, "one empty NEST", x.fits(), 127);
        x.see(3, 4);
        due(26, "4 CORNERS: BARE, LINED without LINES", x.fits(), 65);
        x.line(0, 1, 1);
        x.line(1, 2, 1);
        x.line(2, 3, 1);
        due(26, "LINED is a path now", x.fits(), 1);
        x.see(-1, 0);
        x.see(3, 14);
        due(26, "14 CORNERS: PATH, LINED", x.fits(), 66);
        x.see(4, 0);
        due(26, "k above n - 1", x.fits(), 66);
        x.see(4, 1);
        due(26, "k above n - 1", x.fits(), 0);
        x.see(-1, 0);
        x.see(3, 24);
        due(26, "24 CORNERS: ALL", x.fits(), 8);
        due(26, "THE FAMILY stays", x.told(1), 5);
        due(26, "the CORNERS stay", x.told(2), 4);
    }

    private static void oddsAndMean() {
        NestedBodies x = made(3, 1);
        long[][] odds = {{1, 6}, {1, 3}, {1, 6}, {1, 6}, {1, 6}};
        for (int c = 0; c < 5; c++) {
            due(27, "odds(" + c + ", 0)", x.odds(c, 0), odds[c][0]);
            due(27, "odds(" + c + ", 1)", x.odds(c, 1), odds[c][1]);
        }
        int[][] none = {{-1, 0}, {5, 0}, {0, -1}, {0, 2}, {LEAST, 0}, {MOST, 1}, {0, MOST}, {0, LEAST}};
        for (int[] row : none) {
            due(27, "odds(" + row[0] + ", " + row[1] + ")", x.odds(row[0], row[1]), NO);
            due(28, "mean(" + row[0] + ", " + row[1] + ")", x.mean(row[0], row[1]), NO);
        }
        due(28, "mean(3, 0)", x.mean(3, 0), NO);
        due(28, "mean(0, 0)", x.mean(0, 0), 2);
        due(28, "mean(0, 1)", x.mean(0, 1), 1);
        x.make(4);
        // STAR of 3 stands AT (1,2,3) (1,3,2) (2,1,3) (2,3,1) (4,1,1)
        due(28, "mean(0, 0) of STAR", x.mean(0, 0), 2);
        due(28, "mean(1, 1) of STAR", x.mean(1, 1), 1);
        x = made(5, 0);
        due(28, "mean(2, 0) of BARE", x.mean(2, 0), 6);
        due(28, "mean(2, 1) of BARE", x.mean(2, 1), 5);
        x = made(5, 3);
        due(27, "odds(7, 1) of ALL", x.odds(7, 1), 120);
        due(28, "mean(4, 0) of ALL", x.mean(4, 0), 31);
        due(28, "mean(4, 1) of ALL", x.mean(4, 1), 5);
    }

    private static void event() {
        NestedBodies x = new NestedBodies();
        int[][] none = {{-2, 1}, {4, 1}, {LEAST, 1}, {MOST, 1}, {0, 0}, {0, 16}, {0, -1}, {1, 0}, {1, 16}, {2, -1},
            {2, 7}, {2, MOST}};
        for (int[] row : none) {
            due(29, "event(" + row[0] + ", " + row[1] + ")", x.event(row[0], row[1]), -1);
        }
        for (int n : new int[] {LEAST, -1, 100, MOST}) {
            due(29, "event(3, " + n + ")", x.event(3, n), -2);
        }
        int[][] rows = {{0, 15}, {1, 1}, {2, 0}, {2, 6}, {3, 0}, {3, 99}, {0, 1}, {1, 15}};
        for (int i = 0; i < rows.length; i++) {
            due(29, "event(" + rows[i][0] + ", " + rows[i][1] + ")", x.event(rows[i][0], rows[i][1]), i + 1);
        }
        due(29, "event, a ninth", x.event(2, 0), -4);
        due(29, "event, NONE ahead of FULL", x.event(2, 7), -1);
        due(29, "event, BAD ahead of FULL", x.event(3, 100), -2);
        due(29, "event(-1, 999)", x.event(-1, 999), 0);
        due(29, "count(1)", x.count(1), 0);
    }

    private static void after() {
        NestedBodies x = new NestedBodies();
        for (int what : new int[] {LEAST, -1, 3, MOST}) {
            due(30, "after(" + what + ")", x.after(what), -1);
        }
        int[] bare = {5, 4, 1};
        afterIs(x, bare);
        x.event(2, 1);
        afterIs(x, new int[] {10, 14, 4});
        x.event(1, 7);
        afterIs(x, new int[] {10, 14, 4});
        x.event(1, 3);
        x.event(1, 7);
        due(30, "after(0), 3 and 7 gone", x.after(0), 8);
        x.event(1, 8);
        x.event(1, 15);
        x.event(1, 5);
        due(30, "after(0), nothing more", x.after(0), 8);
        x.event(0, 9);
        due(30, "after(0), 9 11 13 come", x.after(0), 10);
        due(30, "THE FAMILY stays", x.told(1), 5);
        x.event(-1, 0);
        x.event(3, 1);
        x.event(3, 12);
        x.event(3, 22);
        x.event(3, 44);
        x.event(3, 14);
        x.event(2, 6);
        due(30, "after(0), lined 01 12", x.after(0), 8);
        x.event(3, 10);
        x.event(2, 6);
        due(30, "after(0), lined 12", x.after(0), 6);
        due(30, "LINES stay", x.told(4), 0);
        x.event(-1, 0);
        x.event(0, 12);
        x.event(1, 12);
        x.event(3, 3);
        x.points(3);
        afterIs(x, new int[] {4, 3, 1});
    }

    private static void afterIs(NestedBodies x, int[] answers) {
        for (int what = 0; what < 3; what++) {
            due(30, "after(" + what + ")", x.after(what), answers[what]);
        }
    }

    private static void book() {
        NestedBodies x = new NestedBodies();
        for (int set : new int[] {LEAST, -2, 0, 16, MOST}) {
            due(31, "book(" + set + ", 0)", x.book(set, 0), -1);
            due(31, "book, NONE ahead of BAD", x.book(set, 2), -1);
        }
        for (int is : new int[] {LEAST, -1, 2, MOST}) {
            due(31, "book(1, " + is + ")", x.book(1, is), -2);
        }
        due(32, "looked(), an empty BOOK", x.looked(), -5);
        for (int i = 1; i <= 8; i++) {
            due(31, "book", x.book(i, i == 1 || i == 2 || i == 4 || i == 8 ? 1 : 0), i);
        }
        due(31, "book, a ninth", x.book(1, 1), -4);
        due(31, "book, NONE ahead of FULL", x.book(0, 1), -1);
        due(31, "book, BAD ahead of FULL", x.book(1, 2), -2);
        due(32, "looked()", x.looked(), -5);
        x.comes(5);
        due(32, "looked(), 5 is there", x.looked(), 4);
        x.comes(3);
        due(32, "looked(), 3 is there", x.looked(), 2);
        x.points(3);
        due(32, "looked(), 8 isn't there", x.looked(), 6);
        due(31, "book(-1, 9)", x.book(-1, 9), 0);
        due(32, "looked()", x.looked(), -5);
        x.book(7, 0);
        due(32, "looked(), WHOLE", x.looked(), 0);
    }

    private static void judge() {
        NestedBodies x = made(3, 1);
        for (int t : new int[] {LEAST, -1, 6, MOST}) {
            due(33, "judge(" + t + ", 0)", x.judge(t, 0), -1);
        }
        due(33, "judge of nothing", x.judge(0, 0), 100);
        due(33, "judge of nothing", x.judge(0, -1), 100);
        for (int sort : new int[] {0, 2, 3, 4}) {
            x.tape(0, sort, 9);
            due(33, "judge of sort " + sort, x.judge(0, 0), -12);
            due(33, "judge, CAST ahead", x.judge(0, -1), -12);
        }
        x.tape(0, 1, 8);
        int[] path = {1, 2, 3, 4, 6, 7};
        for (int i = 0; i < path.length; i++) {
            x.item(0, i + 1, path[i]);
        }
        due(33, "judge(0, 1)", x.judge(0, 1), -5);
        due(33, "judge(0, 0)", x.judge(0, 0), 0);
        due(33, "judge(0, 2)", x.judge(0, 2), 0);
        for (int i : new int[] {LEAST, -1, 8, 9, MOST}) {
            due(33, "judge(0, " + i + ")", x.judge(0, i), 100);
        }
        x.item(0, 5, 5);
        due(33, "judge(0, 1), 5 for 6", x.judge(0, 1), 4);
        x.tape(1, 1, 5);
        x.shift(0, 1, 1, 0, 4);
        x.item(1, 4, 6);
        due(33, "judge(1, 0), a row too short", x.judge(1, 0), 105);
        x.tape(1, 1, 0);
        due(33, "judge of an empty row", x.judge(1, 0), 100);
    }

    private static void imageAndUndo() {
        NestedBodies x = made(4, 1);
        x.line(0, 1, 1);
        x.choose(7);
        x.choose(2);
        x.see(3, 14);
        x.event(2, 3);
        x.book(3, 0);
        x.feed('n');
        x.tape(0, 2, 3);
        due(34, "image()", x.image(), 10);
        x.points(5);
        x.make(3);
        x.line(2, 3, 1);
        x.choose(1);
        x.see(-1, 0);
        x.event(-1, 0);
        x.book(-1, 0);
        x.feed('4');
        x.item(0, 1, 77);
        for (int round = 0; round < 2; round++) {
            due(35, "undo()", x.undo(), 10);
            int[] told = {4, 10, 14, 4, 1, 2, 2};
            for (int what = 0; what < told.length; what++) {
                due(35, "told(" + what + ")", x.told(what), told[what]);
            }
            due(35, "chosen(0)", x.chosen(0), 7);
            due(35, "chosen(1)", x.chosen(1), 2);
            due(35, "line(0, 1, 1)", x.line(0, 1, 1), 1);
            due(35, "fits()", x.fits(), 2);
            due(35, "after(1)", x.after(1), 24);
            due(35, "looked()", x.looked(), 0);
            due(35, "THE TEXT is none of it", x.count(3), 2);
            due(35, "TAPES are none of it", x.peek(0, 1), 77);
            x.make(0);
            x.drop(7);
            x.see(0, 0);
            x.event(2, 0);
            x.book(1, 1);
        }
        due(34, "image() anew", x.image(), 5);
        x.make(3);
        due(35, "undo()", x.undo(), 5);
    }

    private static void count() {
        NestedBodies x = new NestedBodies();
        x.see(0, 1);
        for (int i = 0; i < 2; i++) {
            x.event(2, 1);
        }
        for (int i = 0; i < 3; i++) {
            x.book(1, 1);
        }
        for (int i = 0; i < 4; i++) {
            x.feed('k');
        }
        for (int what = 0; what < 4; what++) {
            due(36, "count(" + what + ")", x.count(what), what + 1);
        }
        for (int what : new int[] {LEAST, -1, 4, MOST}) {
            due(36, "count(" + what + ")", x.count(what), -2);
        }
    }

    private static void tapes() {
        NestedBodies x = new NestedBodies();
        for (int t : new int[] {LEAST, -1, 6, MOST}) {
            due(37, "tape(" + t + ", 5, 61)", x.tape(t, 5, 61), -1);
            due(38, "item(" + t + ", 0, 0)", x.item(t, 0, 0), -1);
            due(39, "peek(" + t + ", 0)", x.peek(t, 0), NO);
        }
        for (int sort : new int[] {LEAST, -2, 5, MOST}) {
            due(37, "tape(0, " + sort + ", 1)", x.tape(0, sort, 1), -2);
            due(37, "tape, BAD ahead of SIZE", x.tape(0, sort, -1), -2);
        }
        due(37, "tape(0, 0, 61)", x.tape(0, 0, 61), -2);
        due(37, "tape(0, 0, -1)", x.tape(0, 0, -1), -14);
        due(37, "tape(0, 0, LEAST)", x.tape(0, 0, LEAST), -14);
        due(39, "peek(0, 0), nothing there", x.peek(0, 0), NO);
        long v = 0x123456789ABCDEF0L;
        long[] cut = {(byte) 0xF0, (short) 0xDEF0, 0x9ABCDEF0, v, 1};
        for (int sort = 0; sort < 5; sort++) {
            due(37, "tape(" + sort + ", " + sort + ", 60)", x.tape(sort, sort, 60), 1);
            due(39, "peek, all 0", x.peek(sort, 59), 0);
            due(38, "item", x.item(sort, 59, v), 1);
            due(39, "peek(" + sort + ", 59)", x.peek(sort, 59), cut[sort]);
            due(38, "item of 256", x.item(sort, 0, 256), 1);
            due(39, "peek(" + sort + ", 0)", x.peek(sort, 0), sort == 0 ? 0 : sort == 4 ? 1 : 256);
            for (int i : new int[] {LEAST, -1, 60, MOST}) {
                due(38, "item at " + i, x.item(sort, i, 1), -13);
                due(39, "peek at " + i, x.peek(sort, i), NO);
            }
        }
        long[][] booleans = {{0, 0}, {1, 1}, {2, 1}, {0, 0}, {-1, 1}, {1L << 40, 1}, {Long.MIN_VALUE, 1}};
        for (long[] row : booleans) {
            due(38, "item(4, 0, " + row[0] + ")", x.item(4, 0, row[0]), 1);
            due(39, "peek(4, 0)", x.peek(4, 0), row[1]);
        }
        due(37, "tape(4, -5, 3) changes nothing", x.tape(4, -5, 3) * 10 + x.peek(4, 0), -19);
        due(37, "tape(4, 4, 60) anew", x.tape(4, 4, 60), 1);
        due(39, "peek(4, 0)", x.peek(4, 0), 0);
        due(37, "tape(4, -1, 999)", x.tape(4, -1, 999), 1);
        due(38, "item(4, 0, 1)", x.item(4, 0, 1), -11);
        due(38, "item, NOTHING ahead of PLACE", x.item(4, -1, 1), -11);
        due(39, "peek(4, 0)", x.peek(4, 0), NO);
        due(37, "tape(4, -1, -1)", x.tape(4, -1, -1), 1);
        due(37, "tape(5, 3, 0)", x.tape(5, 3, 0), 1);
        due(38, "item(5, 0, 1)", x.item(5, 0, 1), -13);
    }

    private static void shift() {
        NestedBodies x = new NestedBodies();
        x.tape(0, 3, 5);
        x.tape(1, 3, 3);
        x.tape(2, 2, 5);
        for (int i = 0; i < 5; i++) {
            x.item(0, i, i + 1);
        }
        for (int t : new int[] {LEAST, -1, 6, MOST}) {
            due(40, "shift from " + t, x.shift(t, 0, 3, 0, 1), -1);
            due(40, "shift to " + t, x.shift(3, 0, t, 0, 1), -1);
        }
        due(40, "shift from nothing", x.shift(3, 0, 0, 0, 1), -11);
        due(40, "shift to nothing", x.shift(0, 0, 3, 0, -1), -11);
        due(40, "shift, unlike sorts", x.shift(0, 0, 2, 0, 1), -12);
        due(40, "shift, CAST ahead of PLACE", x.shift(0, -1, 2, 0, 1), -12);
        int[][] places = {{-1, 0, 1}, {0, -1, 1}, {0, 0, -1}, {5, 0, 1}, {0, 3, 1}, {3, 0, 3}, {0, 1, 3}, {6, 0, 0},
            {0, 4, 0}, {MOST, 0, 1}, {0, MOST, 1}, {0, 0, MOST}, {1, 0, MOST}, {MOST, MOST, MOST}, {LEAST, 0, 1}};
        for (int[] p : places) {
            due(40, "shift " + p[0] + " " + p[1] + " " + p[2], x.shift(0, p[0], 1, p[1], p[2]), -13);
        }
        due(40, "shift(0, 5, 1, 3, 0)", x.shift(0, 5, 1, 3, 0), 0);
        due(40, "shift(0, 2, 1, 0, 3)", x.shift(0, 2, 1, 0, 3), 3);
        tapeIs(x, 1, 3, 4, 5);
        due(40, "shift up in itself", x.shift(0, 0, 0, 1, 4), 4);
        tapeIs(x, 0, 1, 1, 2, 3, 4);
        due(40, "shift down in itself", x.shift(0, 1, 0, 0, 4), 4);
        tapeIs(x, 0, 1, 2, 3, 4, 4);
    }

    private static void tapeIs(NestedBodies x, int tape, long... items) {
        for (int i = 0; i < items.length; i++) {
            due(40, "peek(" + tape + ", " + i + ")", x.peek(tape, i), items[i]);
        }
    }
}
