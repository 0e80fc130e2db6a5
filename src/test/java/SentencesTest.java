import java.io.IOException;
import java.lang.reflect.InvocationTargetException;
import java.lang.reflect.Method;
import java.nio.file.Files;
import java.nio.file.Path;
import java.util.ArrayList;
import java.util.Arrays;
import java.util.BitSet;
import java.util.HashMap;
import java.util.LinkedHashMap;
import java.util.List;
import java.util.Map;
import java.util.Set;
import java.util.regex.Matcher;
import java.util.regex.Pattern;

/**
 * Each sentence of the document that names a boundary case, quoted, with runs of calls that hold it to its word.
 *
 * A run is a text of calls on a new object: "points(3) make(1)=6 told(2)=5" does points(3), whatever it answers, then
 * make(1), for which 6 is due, then told(2), for which 5 is due. "feed(0)*9" is nine calls. "text(k1;c0)=2" feeds the
 * signs one by one, then reads: 2 is due of read(). "NONE=-1" asks a constant. Words for numbers are below.
 *
 * The quotes are looked up in the document, and together they are all of its Terms and promises: a sentence that is
 * changed there, or has no test here, is told.
 */
public final class SentencesTest {
    private static final int MOST_CALLS = 512;
    /** No more than these are needed to tell all of an object. */
    private static final int CALLS_FOR_ALL = 370;
    private static final Map<String, Long> WORDS = Map.of("least", (long) Integer.MIN_VALUE, "most",
        (long) Integer.MAX_VALUE, "Least", Long.MIN_VALUE, "Most", Long.MAX_VALUE, "NO", Long.MIN_VALUE);
    private static final Pattern CALL = Pattern.compile("(\\w+)(?:\\(([^)]*)\\))?(?:\\*(\\d+))?(?:=(\\S+))?\\s*");
    private static final Set<String> ASKED = Set.of("family", "of", "part", "told", "chosen", "nests", "risen", "at",
        "set", "flip", "corner", "steps", "face", "leads", "fits", "odds", "mean", "after", "looked", "judge", "count",
        "peek");
    private static final Map<String, Method> METHODS = new HashMap<>();

    private record Sentence(String section, String quote, List<String> runs) {
    }

    private record Call(String text, String name, long[] arguments, Long due) {
    }

    private static final List<Sentence> SENTENCES = new ArrayList<>();
    private static String section = "";

    public static void main(String[] args) throws IOException {
        List<String> wrong = new ArrayList<>();
        for (List<String> each : failing().values()) {
            wrong.addAll(each);
        }
        lookUp(Files.readString(Path.of(args.length > 1 ? args[1] : "../shared/DOC.md")), wrong);
        for (String line : wrong) {
            System.out.println(line);
        }
        System.out.println(SENTENCES.size() + " sentences, " + wrong.size() + " wrong");
        if (!wrong.isEmpty()) {
            System.exit(1);
        }
    }

    /** The sentences that don't hold, with what is wrong of each. */
    static Map<String, List<String>> failing() {
        SENTENCES.clear();
        METHODS.clear();
        for (Method m : NestedBodies.class.getMethods()) {
            METHODS.put(m.getName(), m);
        }
        wholeAndTerms();
        texts();
        asked();
        toldByHand();
        tapesAndAnswers();
        promisesOfTheFamily();
        promisesOfWhatIsTold();
        promisesOfCorners();
        promisesOfSeenEventsBooks();
        promisesOfImageAndTapes();
        Map<String, List<String>> failing = new LinkedHashMap<>();
        for (Sentence s : SENTENCES) {
            List<String> wrong = new ArrayList<>();
            if (s.runs.isEmpty()) {
                wrong.add(s.section + ", '" + s.quote + "' has no run");
            }
            for (String run : s.runs) {
                hold(s, run, wrong);
            }
            if (!wrong.isEmpty()) {
                failing.put(s.section + ": " + s.quote, wrong);
            }
        }
        List<String> changes = new ArrayList<>();
        whatIsAskedOrRefusedChangesNothing(changes);
        if (!changes.isEmpty()) {
            failing.put("what is asked or refused changes nothing", changes);
        }
        return failing;
    }

    // ---- the sentences

    private static void says(String quote, String... runs) {
        SENTENCES.add(new Sentence(section, quote, List.of(runs)));
    }

    /** A run of one call for each of some values, each put for # in it. */
    private static String each(String call, Object... values) {
        StringBuilder run = new StringBuilder();
        for (Object value : values) {
            run.append(call.replace("#", value.toString())).append(' ');
        }
        return run.toString();
    }

    /** family(0), family(1), .. and behind the last -5. */
    private static String familyIs(int... sets) {
        StringBuilder run = new StringBuilder();
        for (int i = 0; i < sets.length; i++) {
            run.append("family(").append(i).append(")=").append(sets[i]).append(' ');
        }
        run.append("family(").append(sets.length).append(")=-5 ");
        return run.append("told(1)=").append(sets.length).append(' ').toString();
    }

    private static String clauses(int count, String clause) {
        return String.join(";", java.util.Collections.nCopies(count, clause));
    }

    /** Codes of LINES that tell a POINT that there isn't. */
    private static Object[] linesBeyond(int points) {
        List<Object> codes = new ArrayList<>();
        for (int code = 0; code < 100; code++) {
            if (code / 10 >= points || code % 10 >= points) {
                codes.add(code);
            }
        }
        return codes.toArray();
    }

    /** CORNERS: 1 3 AT 1 2 2, 1 4 AT 1 3 1, 2 3 AT 2 1 2, 2 4 AT 3 1 1. */
    private static final String CHAIN3 = "points(3) make(5) ";
    /** CORNERS: 1 3 AT 1 2 4, 1 5 AT 1 4 2, 2 3 AT 2 1 4, 4 5 AT 2 4 1, 2 6 AT 4 1 2, 4 6 AT 4 2 1. */
    private static final String ALL3 = "points(3) make(3) ";
    /** CORNERS: 1 3 AT 1 2 3, 1 5 AT 1 3 2, 2 3 AT 2 1 3, 4 5 AT 2 3 1, 2 4 AT 4 1 1. */
    private static final String STAR3 = "points(3) make(4) ";

    private static void wholeAndTerms() {
        section = "What it is";
        says("An object is used for at most 512 calls after it has been made; what later calls answer is free.",
            "comes(3)=6 told(2)*510=6 told(0)=4", "tape(0,3,60) item(0,59,7)*255=1 peek(0,59)*255=7 peek(0,59)=7");
        section = "The public face";
        says("NONE = -1, BAD = -2, STATE = -3, FULL = -4;",
            "NONE=-1 BAD=-2 STATE=-3 FULL=-4");
        says("NO = Long.MIN_VALUE;",
            "NO=-9223372036854775808");
        section = "Terms";
        says("5; 4 at first).",
            "told(0)=4", "points(1)=-2 told(0)=4", "points(6)=-2 told(0)=4", "points(2)=4 told(0)=2",
            "points(5)=4 told(0)=5", "points(3)=4 points(4)=3");
        says("Sets of POINTS are told as bits (POINT p: bit p);",
            "points(5) make(5) " + familyIs(1, 2, 3, 4, 7, 8, 15, 16, 31), "text(s03)=1 of(9,0)=1",
            "text(s21)=1 of(6,0)=1");
        says("WHOLE is the set of all.",
            "points(2) family(2)=3 family(3)=-5 of(3,0)=1 of(3,3)=2 of(4,0)=-1",
            "points(3) family(3)=7 family(4)=-5 of(7,0)=1 of(7,3)=3 of(8,0)=-1",
            "family(4)=15 family(5)=-5 of(15,0)=1 of(15,3)=4 of(16,0)=-1",
            "points(5) family(5)=31 family(6)=-5 of(31,0)=1 of(31,3)=5 of(32,0)=-1");
        says("THE FAMILY: sets of POINTS, none of them empty;",
            "make(3)=15 family(0)=1 of(0,0)=-1 comes(0)=-1 goes(0)=-1 choose(0)=-1 told(1)=15");
        says("each single POINT and WHOLE are always in it;",
            "points(2) " + familyIs(1, 2, 3),
            "goes(1)=-3 goes(2)=-3 goes(4)=-3 goes(8)=-3 goes(15)=-3 " + familyIs(1, 2, 4, 8, 15),
            "points(5) " + each("make(#) of(1,0)=1 of(2,0)=1 of(4,0)=1 of(8,0)=1 of(16,0)=1 of(31,0)=1", 0, 1, 2, 3,
                4, 5, 6), "text(t0;t1;t2;t3;t0123)=0 " + familyIs(1, 2, 4, 8, 15));
        says("and it is CLOSED: if two sets in it have a POINT in common, the set of all POINTS of both is in it, too.",
            "comes(3)=6 comes(6)=8 of(7,0)=1", "make(1)=10 goes(7)=-3 goes(14)=-3 of(7,0)=1",
            // no POINT in common: the set of all isn't there
            "points(5) comes(3)=7 comes(12)=8 of(15,0)=0");
        says("LINES: pairs of unlike POINTS (none at first).",
            "told(4)=0 line(0,1,0)=0 line(2,3,0)=0", "line(2,2,1)=-1 line(2,2,0)=-1 told(4)=0",
            "line(1,3,1)=0 line(3,1,1)=1 told(4)=1 line(3,1,0)=1 told(4)=0");
        kinds();
        comingAndGoing();
        nests();
    }

    private static void kinds() {
        says("THE FAMILY can be MADE of a KIND: 0 BARE (at first): single POINTS and WHOLE.",
            familyIs(1, 2, 4, 8, 15), "make(3) make(0)=5 " + familyIs(1, 2, 4, 8, 15), "points(2) make(0)=3",
            "points(5) make(0)=6");
        says("1 PATH: all sets of POINTS a, a + 1, .. b (a no more than b).",
            "make(1)=10 " + familyIs(1, 2, 3, 4, 6, 7, 8, 12, 14, 15), "points(2) make(1)=3",
            "points(3) make(1)=6 " + familyIs(1, 2, 3, 4, 6, 7),
            "points(5) make(1)=15 of(17,0)=0 of(30,0)=1 of(28,0)=1");
        says("2 RING: these, and all sets of POINTS that follow one another round about (n - 1 is followed by 0).",
            "make(2)=13 " + familyIs(1, 2, 3, 4, 6, 7, 8, 9, 11, 12, 13, 14, 15),
            "points(5) make(2)=21 " + each("of(#,0)=1", 3, 30, 17, 19, 23, 25, 27, 29) + each("of(#,0)=0", 5, 9, 10,
                11, 13, 18, 20, 21, 22, 26), "points(2) make(2)=3", "points(3) make(2)=7");
        says("3 ALL: all sets.",
            "make(3)=15 " + familyIs(1, 2, 3, 4, 5, 6, 7, 8, 9, 10, 11, 12, 13, 14, 15), "points(2) make(3)=3",
            "points(3) make(3)=7", "points(5) make(3)=31 family(30)=31");
        says("4 STAR: single POINTS, and all sets that have POINT 0.",
            "make(4)=11 " + familyIs(1, 2, 3, 4, 5, 7, 8, 9, 11, 13, 15), "points(2) make(4)=3",
            "points(5) make(4)=20 of(30,0)=0 of(29,0)=1");
        says("5 CHAIN: single POINTS, and all sets of POINTS 0, 1, .. b.",
            "make(5)=7 " + familyIs(1, 2, 3, 4, 7, 8, 15), "points(2) make(5)=3", CHAIN3 + familyIs(1, 2, 3, 4, 7),
            "points(5) make(5)=9");
        says("6 LINED: single POINTS, WHOLE, and all sets whose POINTS hang together by LINES between POINTS of "
            + "the set.",
            // without LINES as BARE
            "make(6)=5 " + familyIs(1, 2, 4, 8, 15),
            // 0 and 2 hang together by 1 alone: 5 isn't there; WHOLE is, though 3 has no LINE
            "line(0,1,1) line(1,2,1) make(6)=8 " + familyIs(1, 2, 3, 4, 6, 7, 8, 15),
            "points(5) line(0,4,1) line(4,2,1) line(2,3,1) line(3,1,1) make(6)=15 of(17,0)=1 of(20,0)=1 of(21,0)=1 "
                + "of(5,0)=0 of(29,0)=1 of(30,0)=1 of(25,0)=0", "points(2) line(0,1,1) make(6)=3",
            "points(5) line(3,4,1) make(6)=7 of(24,0)=1");
    }

    private static void comingAndGoing() {
        says("A set COMES to THE FAMILY: it is in it then;",
            "of(5,0)=0 comes(5)=6 of(5,0)=1", "comes(14)=6 of(14,0)=1");
        says("and as long as there are two sets in it that have a POINT in common, and the set of all POINTS of "
            + "both isn't in it, that comes, too.",
            "points(5) comes(3)=7 comes(24)=8 comes(12)=10 of(28,0)=1 comes(6)=15",
            // 10 meets 3 and 24, which don't meet: 27 comes by what came
            "points(5) comes(3)=7 comes(24)=8 comes(10)=12 of(11,0)=1 of(26,0)=1 of(27,0)=1");
        says("A set GOES from it: it isn't in it any more (if THE FAMILY is CLOSED then; single POINTS and WHOLE "
            + "never go).",
            "comes(5) goes(5)=5 of(5,0)=0", "make(1) goes(7)=-3 of(7,0)=1 goes(3)=9 goes(7)=8 of(7,0)=0",
            "goes(15)=-3 goes(1)=-3 goes(8)=-3 told(1)=5", "points(2) goes(1)=-3 goes(2)=-3 goes(3)=-3 told(1)=3",
            // 3 and 6 meet and make 7 up; 3 and 4 don't meet
            "points(3) comes(3) comes(6) goes(7)=-3", "comes(7) comes(3)=7 goes(7)=6 of(7,0)=0 of(3,0)=1");
    }

    private static void nests() {
        says("A NEST: sets of THE FAMILY, WHOLE not among them,",
            "choose(15)=-1 choose(3)=-1 nests(1)=4", "make(3) choose(15)=-1 nests(1)=14",
            "points(2) choose(3)=-1 nests(1)=2");
        says("so that of any two of them the one lies within the other, or they have no POINT in common;",
            "make(1) choose(3)=1 choose(6)=-3 choose(14)=-3 choose(7)=2 choose(1)=3", "make(1) choose(1)=1 choose(4)=2",
            "make(1) choose(7)=1 choose(3)=2 choose(6)=-3 choose(12)=-3 choose(14)=-3",
            "points(3) make(1) nests(1)=5 nests(2)=5", "points(3) make(3) nests(1)=6 nests(2)=6");
        says("and of any two or more of them of which no two have a POINT in common the set of all their POINTS "
            + "isn't in THE FAMILY.",
            "make(1) choose(1)=1 choose(2)=-3 choose(14)=-3", "points(2) choose(1)=1 choose(2)=-3",
            // of three, of four, of all, of some among others
            "comes(7) choose(1)=1 choose(2)=2 choose(4)=-3 choose(8)=3",
            "points(5) comes(15) choose(1)=1 choose(2)=2 choose(4)=3 choose(8)=-3 choose(16)=4",
            "points(5) choose(16)=1 choose(2)=2 choose(1)=3 choose(4)=4 choose(8)=-3",
            "points(5) comes(13) choose(1)=1 choose(2)=2 choose(4)=3 choose(8)=-3",
            "points(5) comes(6) choose(1)=1 choose(2)=2 choose(4)=-3",
            "comes(7) nests(0)=1 nests(1)=5 nests(2)=9 nests(3)=6");
        says("A CORNER: a NEST of n - 1 sets (there are none of more).",
            "points(2) choose(1)=1 choose(2)=-3 told(2)=2", "choose(1) choose(2) choose(4)=3 choose(8)=-3 told(6)=1",
            "make(3) choose(1) choose(3) choose(7)=3 " + each("choose(#)=-3", 1, 2, 3, 4, 5, 6, 7, 8, 9, 10, 11, 12,
                13, 14),
            "points(5) make(3) choose(16) choose(24) choose(28)=3 choose(30)=4 " + each("choose(#)=-3", 1, 2, 4, 8,
                15, 20, 26), "nests(3)=4 told(2)=4 nests(4)=-2");
        says("CHOSEN: a NEST told by hand, set by set (none at first, and as soon as THE FAMILY changes, or is "
            + "told to be MADE anew).",
            "told(5)=0 chosen(0)=-5", "choose(1) comes(3) told(5)=0 chosen(0)=-5",
            "comes(3) choose(1) goes(3) told(5)=0", "choose(1) make(0)=5 told(5)=0", "choose(1) make(3) told(5)=0",
            "choose(1) points(4)=4 told(5)=0", "choose(1) text(k0)=1 told(5)=0", "choose(1) text(s01)=1 told(5)=0",
            "comes(3) choose(1) text(t01)=1 told(5)=0", "choose(1) text(n4)=1 told(5)=0",
            // what changes nothing of THE FAMILY leaves CHOSEN
            "choose(1) comes(15)=5 comes(1)=5 told(5)=1", "choose(1) line(0,1,1) told(5)=1",
            "choose(1) make(7)=-1 told(5)=1", "choose(1) goes(15)=-3 goes(3)=-1 told(5)=1",
            "choose(1) points(6)=-2 told(5)=1", "choose(1) text(s0123;k9;n9;t0;l01)=2 told(5)=1");
    }

    private static void texts() {
        says("A set-up is read from THE TEXT (bytes, 100 at most):",
            "feed(107)*99 feed(48)=100 feed(48)=-4 count(3)=100", "points(5) text(" + clauses(12, "s01234") + ")=12",
            "feed(110) feed(53) read()=1 told(0)=5");
        says("CLAUSES, 1 to 12, with ; between:",
            "text()=-10", "text(k0)=1", "text(" + clauses(12, "k0") + ")=12", "text(" + clauses(11, "k0") + ")=11",
            "text(" + clauses(13, "k0") + ")=-45", "text(" + clauses(12, "k0") + ";)=-45", "text(k0;)=-13",
            "text(;k0)=-10", "text(k0;;k0)=-13", "text(k0k0)=-12", "text(k0,k0)=-12", "text(;)=-10");
        says("n DIGIT (as points());",
            "text(n5)=1 told(0)=5", "text(n2)=1 told(0)=2", "text(n1)=0 told(0)=4", "text(n6)=0 told(0)=4",
            "text(n0;n9)=0 told(0)=4", "text(n)=-11", "text(n44)=-12", "line(0,1,1) text(n4)=1 told(4)=0");
        says("k DIGIT (as make());",
            "text(k3)=1 told(1)=15", "text(k0)=1 told(1)=5", "text(k6)=1 told(1)=5", "text(k7)=0 told(1)=5",
            "text(k9)=0", "text(k)=-11", "text(k11)=-12");
        says("s and 1 to 5 DIGITS (POINTS; the set of these COMES, as comes());",
            "text(s)=-11", "text(s0)=1 told(1)=5", "text(s01)=1 of(3,0)=1", "text(s201)=1 of(7,0)=1",
            "points(5) text(s43210)=1 told(1)=6", "points(5) text(s0314)=1 of(27,0)=1", "text(s00000)=1 told(1)=5",
            "text(s01010)=1 of(3,0)=1", "text(s012012)=-16", "text(s01;s12)=2 told(1)=8 of(7,0)=1");
        says("t and 1 to 5 DIGITS (likewise; it GOES, as goes());",
            "comes(3) text(t10)=1 of(3,0)=0", "comes(3) text(t10101)=1 of(3,0)=0", "text(t0)=0", "text(t0123)=0",
            "text(t01)=0", "make(1) text(t012)=0 told(1)=10", "text(t)=-11", "text(t000000)=-16",
            "comes(3) text(t01;t01)=1");
        says("l DIGIT DIGIT (a LINE, if there is none, else none any more; as line());",
            "text(l01)=1 told(4)=1 line(0,1,1)=1 text(l10)=1 told(4)=0", "text(l23;l32;l23)=3 told(4)=1",
            "text(l00)=0 told(4)=0", "text(l04)=0", "text(l)=-11", "text(l0)=-12", "text(l012)=-13");
        says("c and 1 to 5 DIGITS (likewise; as choose()).",
            "text(c0)=1 chosen(0)=1", "text(c01)=0", "text(c0123)=0 told(5)=0", "text(c0;c0)=1 told(5)=1",
            "text(c)=-11", "text(c000000)=-16", "text(c33333)=1 chosen(0)=8",
            "make(3) text(c012;c21;c10)=2 chosen(0)=7 chosen(1)=6 chosen(2)=-5");
        says("One that tells a POINT that there isn't is refused.",
            each("text(#)=0", "s04", "s4", "s40", "s9", "t4", "t04", "c4", "c04", "l04", "l40", "l45") +
                "told(1)=5 told(4)=0 told(5)=0", "points(5) text(s04)=1 text(l34)=1 text(c4)=1 text(s05)=0",
            "text(n3;s03;n4;s03)=3 of(9,0)=1", "points(2) text(c2;s2)=0");
        says("Nothing else stands between (no blanks).",
            "text( k0)=-10", "text(k 0)=-11", "text(k0 )=-12", "text(k0; k0)=-13", "text(k0 ;k0)=-12", "text(s0 1)=-12",
            "text(l0 1)=-12", "feed(107) feed(48) feed(10) read()=-12", "feed(107) feed(48) feed(0) read()=-12",
            "feed(0) read()=-10");
        says("The FAULT: the place of the first byte with which none begins so",
            "text(x)=-10", "text(nx)=-11", "text(n4x)=-12", "text(n4;x)=-13", "text(k0;k1;lx0)=-17", "text(x;x)=-10",
            "text(n4;nn4;x)=-14",
            // the signs next to those that are right
            each("text(#)=-10", "K0", "N4", "m4", "o4", "j0", "r0", "u0", "b0", "d0", "0", "9"),
            each("text(#)=-11", "n/", "n:", "s/", "s:", "l/0", "l:0", "n;"),
            each("text(#)=-12", "s0/", "s0:", "k0:", "k0<", "l0/", "l0:", "l0;"), "text(n9)=0 text(n0)=0 text(s8)=0");
        says("(the end of THE TEXT, if it ends too early).",
            "read()=-10", "text(k)=-11", "text(s)=-11", "text(l)=-11", "text(l1)=-12", "text(k0;)=-13",
            "text(k0;k)=-14", "text(" + clauses(11, "k0") + ";)=-43", "text(" + clauses(11, "k0") + ";l0)=-45");
        says("Without it they are done, one behind the other; those that would be refused aren't.",
            "text(k1;c0;k0)=3 told(1)=5 told(5)=0", "text(k0;c0;k9;c1)=3 told(5)=2", "text(s01;t01;t01)=2 told(1)=5",
            "text(n3;l01;l12;k6)=4 told(1)=6", "text(k3;n5;x)=-16 told(0)=4 told(1)=5", "text(k3;)=-13 told(1)=5");
    }

    private static void asked() {
        says("All that follows is asked, and changes nothing.",
            "points(3) make(5) line(0,1,1) choose(3) see(2,4) event(2,3) book(3,0) at(0,0)=1 set(0,0)=1 "
                + "flip(0,0)=2 corner(0,0)=2 steps(0,3)=2 face(3,0)=2 leads(123)=3 fits()=96 odds(1,1)=3 "
                + "mean(0,0)=7 after(0)=7 after(1)=6 after(2)=3 looked()=0 judge(0,0)=100 nests(1)=4 risen(1)=2 "
                + "part(3,0)=3 " + familyIs(1, 2, 3, 4, 7) + "told(0)=3 told(2)=4 told(3)=2 told(4)=1 told(5)=1 "
                + "told(6)=2 told(7)=0 chosen(0)=3 count(0)=1 count(1)=1 count(2)=1 line(0,1,1)=1 line(0,2,1)=0");
        says("A CORNER stands AT numbers, one for each POINT p: of its sets and WHOLE the one with fewest POINTS "
            + "that has p: how many sets of THE FAMILY that lie within that have p.",
            CHAIN3 + "at(0,0)=1 at(0,1)=2 at(0,2)=2 at(1,0)=1 at(1,1)=3 at(1,2)=1 at(2,0)=2 at(2,1)=1 at(2,2)=2 "
                + "at(3,0)=3 at(3,1)=1 at(3,2)=1", "points(2) at(0,0)=1 at(0,1)=2 at(1,0)=2 at(1,1)=1",
            "points(5) make(3) at(0,0)=1 at(0,4)=16 at(119,0)=16 at(119,1)=8 at(119,4)=1");
        says("CORNERS are numbered from 0 by what they stand AT for POINT 0, of like ones for POINT 1, and so on, "
            + "the least first.",
            "at(0,3)=2 at(1,2)=2 at(2,1)=2 at(3,0)=2 at(4,0)=-1 at(-1,0)=-1",
            // (1,2,3,4) (1,2,6,1) (1,4,1,4) (1,6,1,2) (1,6,2,1) are the first of PATH
            "make(1) at(0,2)=3 at(1,2)=6 at(1,3)=1 at(2,1)=4 at(3,1)=6 at(3,2)=1 at(4,2)=2 at(4,0)=1 at(5,0)=2",
            // of ALL, 16 is beyond one digit
            "points(5) make(3) at(95,0)=8 at(96,0)=16", ALL3 + "at(3,1)=4 at(4,1)=1", STAR3 + "at(3,1)=3 at(4,0)=4");
        says("Sets of a CORNER are numbered from 0, the least as bits first.",
            "set(0,0)=1 set(0,1)=2 set(0,2)=4 set(3,0)=2 set(3,2)=8",
            CHAIN3 + "set(0,0)=1 set(0,1)=3 set(1,0)=1 set(1,1)=4 set(2,0)=2 set(2,1)=3 set(3,0)=2 set(3,1)=4",
            "make(1) set(1,0)=1 set(1,1)=3 set(1,2)=8", ALL3 + "set(3,0)=4 set(3,1)=5 set(4,0)=2 set(4,1)=6");
        says("FLIP k of a CORNER: the other CORNER that has all its sets but number k (there is just one).",
            CHAIN3 + "flip(0,0)=2 flip(0,1)=1 flip(1,0)=3 flip(1,1)=0 flip(2,0)=0 flip(2,1)=3 flip(3,0)=1 flip(3,1)=2",
            "points(2) flip(0,0)=1 flip(1,0)=0", "make(1) flip(0,1)=2 flip(0,2)=1 flip(1,2)=0",
            "flip(0,0)=3 flip(0,1)=2 flip(0,2)=1", ALL3 + "flip(3,0)=1 flip(3,1)=5 flip(4,0)=5 flip(4,1)=2");
        says("WORTH of a CORNER: what it stands AT for POINT p times 10 to the power of p, all together;",
            CHAIN3 + "corner(0,2)=221 corner(1,2)=131 corner(2,2)=212 corner(3,2)=113",
            "points(2) corner(0,2)=21 corner(1,2)=12",
            // 1 + 20 + 400 + 8000 + 160000
            "points(5) make(3) corner(0,2)=168421 corner(119,2)=12496", ALL3 + "corner(3,2)=142",
            ALL3 + "corner(4,2)=214");
        says("RISES of it: how many of its FLIPS have less WORTH.",
            CHAIN3 + "corner(0,0)=2 corner(1,0)=1 corner(2,0)=1 corner(3,0)=0", "points(2) corner(0,0)=1 corner(1,0)=0",
            "points(5) make(3) corner(0,0)=4 corner(119,0)=0",
            ALL3 + "corner(0,0)=2 corner(1,0)=1 corner(2,0)=1 corner(3,0)=1 corner(4,0)=1 corner(5,0)=0");
        says("STEPS of two CORNERS: the fewest FLIPS that lead from the one to the other (0: they are one).",
            CHAIN3 + "steps(0,0)=0 steps(0,1)=1 steps(0,2)=1 steps(0,3)=2 steps(3,0)=2 steps(1,2)=2 steps(2,1)=2 "
                + "steps(3,3)=0", "points(2) steps(0,0)=0 steps(0,1)=1 steps(1,0)=1 steps(1,1)=0",
            "points(5) make(3) steps(119,119)=0 steps(0,119)=10 steps(119,0)=10 steps(118,119)=1",
            ALL3 + "steps(0,5)=3 steps(3,4)=2 steps(1,4)=3 steps(2,3)=3 steps(0,3)=2");
        says("FARTHEST: the greatest STEPS of any two.",
            "told(3)=1", CHAIN3 + "told(3)=2", "points(2) told(3)=1", "points(5) told(3)=1",
            "points(3) make(1) told(3)=2 make(2) told(3)=3", "points(5) make(3) told(3)=10 make(1) told(3)=5",
            "make(3) told(3)=6 make(1) told(3)=4");
        says("A FACE: a set of THE FAMILY other than WHOLE;",
            CHAIN3 + "face(7,0)=-1 face(5,0)=-1 face(6,0)=-1 face(0,0)=-1 face(8,0)=-1 face(3,0)=2 face(4,0)=2",
            "points(2) face(3,0)=-1 face(2,0)=1", "points(5) face(31,0)=-1 face(16,0)=4");
        says("a CORNER lies on it, if it is one of its sets.",
            CHAIN3 + "face(1,0)=2 face(2,0)=2 face(3,0)=2 face(4,0)=2",
            "make(1) " + each("face(#,0)=5", 1, 2, 4, 8, 7, 14) + each("face(#,0)=4", 3, 6, 12),
            "face(1,0)=3 face(8,0)=3 face(8,1)=1", ALL3 + "face(4,0)=2 face(4,1)=3", ALL3 + "face(6,1)=4");
        says("PARTS of a set: sets of THE FAMILY that lie within it and within no other such set; numbered from 0, "
            + "the least as bits first.",
            "make(1) of(11,2)=2 part(11,0)=3 part(11,1)=8 part(11,2)=-5", "make(1) of(7,2)=1 part(7,0)=7 part(7,1)=-5",
            "of(7,2)=3 part(7,0)=1 part(7,1)=2 part(7,2)=4 part(7,3)=-5", "make(1) part(13,0)=1 part(13,1)=12",
            "part(15,0)=15 of(15,2)=1",
            // two parts never meet, single POINTS are the least
            "points(5) comes(24) of(29,2)=3 part(29,0)=1 part(29,1)=4 part(29,2)=24 part(31,0)=31");
        orders();
    }

    private static void orders() {
        says("An ORDER: a number of n digits, from the highest on POINTS, each once, 1 more than each (of n 3: 312 "
            + "is POINT 2, then 0, then 1).",
            CHAIN3 + "leads(312)=2 " + each("leads(#)=-2", 0, 1, 12, 21, 32, 102, 120, 112, 122, 121, 131, 212, 232,
                313, 323, 333, 124, 412, 413, 1234, 1123, 3121, 13, -1, -123, -312, "least", "most"),
            "points(2) leads(12)=1 leads(21)=0 " + each("leads(#)=-2", 1, 2, 11, 22, 13, 31, 10, 20, 1, 123, 212,
                -12, 112),
            "points(5) make(3) leads(12345)=119 leads(54321)=0 " + each("leads(#)=-2", 1234, 12344, 12341, 12321,
                12343, 12313, 54325, 12340, 12346, 62345, 123456, 112345, "most", "least"));
        says("It LEADS to the CORNER that stands, for each POINT p, AT the number of sets of THE FAMILY of which p "
            + "is, of their POINTS, the first in the ORDER (there always is one).",
            CHAIN3 + "leads(123)=3 leads(132)=3 leads(213)=1 leads(231)=1 leads(312)=2 leads(321)=0",
            "leads(1234)=3 leads(2134)=2 leads(3421)=1 leads(4123)=0 leads(4321)=0",
            "points(2) leads(12)=1 leads(21)=0", ALL3 + "leads(132)=4", ALL3 + "leads(213)=3");
    }

    private static void toldByHand() {
        says("SEEN told by hand: a number k (0 .. 4), how many NESTS of k sets there were (4 rows at most).",
            "see(-2,0)=-1 see(5,0)=-1 see(0,1)=1 see(4,0)=2 see(1,4)=3 see(1,4)=4 see(1,4)=-4 count(0)=4");
        says("FITS: KINDS (bits 0 .. 6) of which THE FAMILY had to be MADE (POINTS, LINES as they are) for all of "
            + "SEEN to be so (of k above n - 1 there are 0 NESTS).",
            "fits()=127", "points(3) see(2,3) fits()=65", "points(3) see(2,4) fits()=32",
            "points(3) see(2,6) fits()=12", "points(3) see(2,5) fits()=18 line(0,2,1) fits()=18 line(1,2,1) fits()=82",
            "points(3) see(2,5) see(1,5) fits()=18 see(1,6) fits()=0", "points(3) see(3,0) see(4,0) fits()=127",
            "points(3) see(3,1) fits()=0", "points(2) see(2,0) see(3,0) see(4,0) fits()=127",
            "points(2) see(2,1) fits()=0", "points(2) see(1,2) see(0,1) fits()=127", "see(4,1) fits()=0",
            "see(3,4) fits()=65 points(3) fits()=0", "make(3) see(3,4) fits()=65", "points(5) see(4,120) fits()=8",
            "see(0,0) fits()=0");
        says("ODDS of a CORNER: ORDERS being alike likely, how likely one LEADS to it: a fraction in lowest terms.",
            CHAIN3 + "odds(0,0)=1 odds(0,1)=6 odds(1,0)=1 odds(1,1)=3 odds(2,1)=6 odds(3,0)=1 odds(3,1)=3",
            "odds(0,0)=1 odds(0,1)=4", "points(2) odds(0,0)=1 odds(0,1)=2 odds(1,1)=2",
            "points(5) make(3) odds(119,0)=1 odds(119,1)=120", STAR3 + "odds(4,1)=3", STAR3 + "odds(3,1)=6");
        says("MEAN of a POINT: what CORNERS stand AT for it, together, by how many CORNERS there are: a fraction "
            + "in lowest terms.",
            CHAIN3 + "mean(0,0)=7 mean(0,1)=4 mean(1,0)=7 mean(1,1)=4 mean(2,0)=3 mean(2,1)=2",
            "points(2) mean(0,0)=3 mean(0,1)=2",
            // 10 by 5, and 14 by 6
            "points(3) make(1) mean(0,0)=2 mean(0,1)=1", ALL3 + "mean(2,0)=7 mean(2,1)=3",
            STAR3 + "mean(0,0)=2 mean(0,1)=1");
        says("EVENTS told by hand: what happens (0 set n COMES;",
            "event(0,3) after(0)=6 event(0,6) after(0)=8", "event(0,15) after(0)=5");
        says("1 set n GOES, if it is there, no single POINT, not WHOLE, and THE FAMILY is CLOSED then; else nothing;",
            "comes(3) event(1,3) after(0)=5", "event(1,3) after(0)=5", "event(1,1) event(1,8) after(0)=5",
            "event(1,15) after(0)=5", "make(1) event(1,7) after(0)=10 event(1,3) event(1,7) after(0)=8",
            "comes(3) event(1,3) event(1,3) after(0)=5", "event(0,3) event(1,3) after(0)=5");
        says("2 THE FAMILY is MADE of KIND n;",
            "event(2,3) after(0)=15 event(2,0) after(0)=5", "make(3) event(2,6) after(0)=5",
            each("event(2,#)=1 event(-1,0)=0", 0, 1, 2, 3, 4, 5, 6));
        says("3 a LINE of POINTS n by 10, cut, and n modulo 10, if there is none, else none any more (nothing, if "
            + "they are one);",
            "event(3,1) event(2,6) after(0)=6 event(3,10) event(2,6) after(0)=5", "event(3,11) event(2,6) after(0)=5",
            each("event(3,#) event(2,6) after(0)=5 event(-1,0)", 0, 11, 22, 33), "event(3,23) event(2,6) after(0)=6",
            "line(0,1,1) event(3,1) event(2,6) after(0)=5", "line(0,1,1) event(3,12) event(2,6) after(0)=8",
            "event(3,12) after(0)=5", "points(5) event(3,34) event(2,6) after(0)=7");
        says("sets and POINTS that aren't there by then: nothing;",
            "event(3,4) event(2,6) after(0)=5", "event(3,40) event(2,6) after(0)=5",
            "event(3,99) event(3,90) event(3,9) event(2,6) after(0)=5 after(1)=4",
            each("event(3,#) event(2,6) after(0)=5 event(-1,0)", linesBeyond(4)),
            "event(0,12) event(2,6) points(3) after(0)=4", "event(0,9) points(3) after(0)=4 after(1)=3",
            "event(0,12) event(0,8) points(3) after(0)=4", "comes(9) event(1,9) points(3) after(0)=4",
            "points(5) event(0,17) points(4) after(0)=5 points(5) after(0)=7", "event(0,15) points(3) after(0)=4",
            "points(5) event(3,34) event(2,6) points(4) after(0)=5", "event(0,3) event(0,9) points(3) after(0)=5");
        says("8 rows at most):",
            "event(2,0)*7 event(2,3)=8 event(2,0)=-4 count(1)=8 after(0)=15");
        says("AFTER, behind all of it: how many sets THE FAMILY has; how many CORNERS; FARTHEST.",
            "after(0)=5 after(1)=4 after(2)=1",
            "event(2,3) after(0)=15 after(1)=24 after(2)=6 told(1)=5 told(2)=4 told(3)=1",
            CHAIN3 + "event(1,3) after(0)=4 after(1)=3 after(2)=1", "points(5) event(2,3) after(1)=120 after(2)=10",
            "event(2,1) event(2,3) event(2,1) after(1)=14 after(2)=4");
        says("A BOOK told by hand: sets, whether (1, 0) they are in THE FAMILY (8 rows at most):",
            "book(1,1)*7 book(1,1)=8 book(1,1)=-4 count(2)=8", "book(1,2)=-2 book(1,-1)=-2 book(15,1)=1 book(3,0)=2");
        says("LOOKED at: the number (from 0) of the first of these rows that is otherwise now (-5: none).",
            "looked()=-5",
            "book(1,1) looked()=-5 book(3,1) looked()=1 book(5,1) looked()=1 comes(3) looked()=2 comes(5) looked()=-5",
            "book(3,0)*7 book(1,0) looked()=7", "book(15,0) book(15,1) looked()=0",
            "book(9,1) book(9,0) points(3) looked()=0", "book(8,0) points(3) looked()=-5");
        image();
    }

    private static void image() {
        says("THE IMAGE: POINTS, LINES, THE FAMILY, CHOSEN, SEEN, EVENTS, the BOOK.",
            "image() points(5) undo() told(0)=4 of(16,0)=-1",
            "line(0,1,1) image() line(0,1,0) line(2,3,1) undo() told(4)=1 line(2,3,1)=0 line(0,1,1)=1",
            "line(0,1,1) line(1,2,1) image() points(4) undo() told(4)=2 make(6)=8",
            "make(5) image() make(3) undo() " + familyIs(1, 2, 3, 4, 7, 8, 15),
            "choose(8) choose(1) image() drop(8) undo() told(5)=2 chosen(0)=8 chosen(1)=1",
            "image() choose(8) undo() told(5)=0", "choose(8) image() make(0) undo() chosen(0)=8",
            "see(3,14) image() see(-1,0) undo() count(0)=1 fits()=2", "image() see(3,14) undo() count(0)=0 fits()=127",
            "see(3,14) image() see(-1,0) see(3,24) undo() fits()=2",
            "event(2,3) image() event(-1,0) event(2,1) undo() count(1)=1 after(0)=15",
            "image() event(2,3) undo() count(1)=0 after(0)=5",
            "book(1,1) book(3,1) image() book(-1,0) undo() count(2)=2 looked()=1",
            "image() book(3,1) undo() count(2)=0 looked()=-5",
            // all of them full
            "points(5) choose(1) choose(2) choose(4) choose(8) see(0,1)*4 event(2,3)*8 book(1,1)*7 book(3,1) image() "
                + "points(4) see(-1,0) event(-1,0) book(-1,0) undo()=6 told(5)=4 chosen(0)=1 chosen(3)=8 count(0)=4 "
                + "count(1)=8 count(2)=8 after(0)=31 looked()=7 fits()=127",
            // THE TEXT and TAPES are none of it
            "feed(107) image() feed(48) undo() count(3)=2 read()=1",
            "tape(0,1,2) image() item(0,1,7) undo() peek(0,1)=7", "image() tape(0,1,2) undo() peek(0,1)=0",
            "tape(0,1,2) image() tape(0,-1,0) undo() item(0,0,1)=-11");
    }

    private static void tapesAndAnswers() {
        says("TAPES 0 .. 5 hold nothing (at first),",
            each("item(#,0,1)=-11 peek(#,0)=NO", 0, 1, 2, 3, 4, 5), "item(6,0,1)=-1 item(-1,0,1)=-1",
            each("tape(#,1,1)=1", 0, 1, 2, 3, 4, 5) + "tape(6,1,1)=-1 tape(-1,1,1)=-1");
        says("or a row of 0 bytes, 1 shorts, 2 ints, 3 longs, 4 booleans (items 0, 1).",
            "tape(0,0,1) item(0,0,127) peek(0,0)=127 item(0,0,128) peek(0,0)=-128 item(0,0,-128) peek(0,0)=-128 "
                + "item(0,0,-129) peek(0,0)=127",
            "tape(0,1,1) item(0,0,32767) peek(0,0)=32767 item(0,0,32768) peek(0,0)=-32768 item(0,0,-32769) "
                + "peek(0,0)=32767",
            "tape(0,2,1) item(0,0,2147483647) peek(0,0)=2147483647 item(0,0,2147483648) peek(0,0)=-2147483648 "
                + "item(0,0,-2147483649) peek(0,0)=2147483647",
            "tape(0,3,2) item(0,0,Most) item(0,1,Least) peek(0,0)=Most peek(0,1)=Least",
            "tape(0,4,1) item(0,0,0) peek(0,0)=0 item(0,0,1) peek(0,0)=1 item(0,0,2) peek(0,0)=1 item(0,0,-1) "
                + "peek(0,0)=1 item(0,0,0) peek(0,0)=0", "tape(0,5,1)=-2 tape(0,-2,1)=-2");
        says("Sets of THE FAMILY, the least as bits first, told by a row of shorts, from a place on, are JUDGED: "
            + "the number of the first that is otherwise (counted from 0 from that place on); -5: none;",
            "points(2) tape(0,1,6) item(0,2,1) item(0,3,2) item(0,4,3) judge(0,2)=-5 judge(0,0)=0 judge(0,1)=0 "
                + "judge(0,3)=0 item(0,4,4) judge(0,2)=2 item(0,3,3) judge(0,2)=1",
            "points(2) tape(0,1,3) item(0,0,1) item(0,1,2) item(0,2,3) judge(0,0)=-5 points(3) judge(0,0)=2",
            "points(2) tape(5,1,60) item(5,57,1) item(5,58,2) item(5,59,3) judge(5,57)=-5");
        says("100 and how many were looked at, if the row ends ahead of that (or the place is below 0, or the TAPE "
            + "holds nothing).",
            "points(2) tape(0,1,2) item(0,0,1) item(0,1,2) judge(0,0)=102 item(0,1,1) judge(0,0)=1 judge(0,1)=101 "
                + "judge(0,2)=100 judge(0,3)=100 judge(0,-1)=100 judge(0,least)=100 judge(0,most)=100",
            "judge(0,0)=100 judge(0,-1)=100 judge(5,7)=100", "tape(0,1,0) judge(0,0)=100",
            "tape(0,1,5) tape(0,-1,0) judge(0,0)=100");
        says("The host's refusals: NOTHING (-11): nothing is there; CAST (-12): another sort; PLACE (-13): no such "
            + "place; SIZE (-14): a size below 0.",
            "item(0,0,1)=-11 shift(0,0,0,0,0)=-11", "tape(0,0,1) judge(0,0)=-12 tape(1,1,1) shift(0,0,1,0,1)=-12",
            "tape(0,0,1) item(0,1,1)=-13 item(0,-1,1)=-13 shift(0,0,0,1,1)=-13",
            "tape(0,0,-1)=-14 tape(0,0,least)=-14 tape(0,0,0)=1");
        answers();
    }

    private static void answers() {
        says("Answers: NONE (-1) no such number, no set of POINTS (bits 1 .. WHOLE), no such set in THE FAMILY;",
            "make(7)=-1 told(8)=-1 after(3)=-1 at(4,0)=-1",
            each("comes(#)=-1 of(#,0)=-1 part(#,0)=-1 event(0,#)=-1 event(1,#)=-1", 0, 16, -1, "least", "most") +
                "book(0,1)=-1 book(16,1)=-1 book(-2,1)=-1", "comes(1)=5 comes(15)=5 of(1,0)=1 of(15,0)=1",
            "goes(3)=-1 choose(3)=-1 face(3,0)=-1 goes(16)=-1 choose(16)=-1 face(16,0)=-1");
        says("BAD (-2) a number is not as told;",
            "points(1)=-2 line(0,1,2)=-2 feed(128)=-2 nests(4)=-2 risen(4)=-2 leads(123)=-2 see(0,1000)=-2 "
                + "event(3,100)=-2 book(1,2)=-2 count(4)=-2 tape(0,5,1)=-2 tape(0,0,61)=-2");
        says("STATE (-3) as told;",
            "goes(1)=-3 undo()=-3 choose(1) choose(1)=-3");
        says("FULL (-4);",
            "feed(0)*100 feed(0)=-4 see(0,0)*4 see(0,0)=-4 event(2,0)*8 event(2,0)=-4 book(1,1)*8 book(1,1)=-4");
        says("the first that a call's words name.",
            "line(0,0,2)=-1 line(4,0,2)=-1 line(0,4,2)=-1", "feed(0)*100 feed(128)=-2 feed(-1)=-2 feed(0)=-4",
            "see(5,1000)=-1 see(5,-1)=-1 see(0,0)*4 see(5,0)=-1 see(5,1000)=-1 see(0,1000)=-2 see(0,-1)=-2 see(0,0)=-4",
            "event(4,100)=-1 event(2,0)*8 event(4,0)=-1 event(0,0)=-1 event(1,16)=-1 event(2,7)=-1 event(3,100)=-2 "
                + "event(3,-1)=-2 event(3,0)=-4",
            "book(0,2)=-1 book(1,1)*8 book(0,1)=-1 book(16,2)=-1 book(1,2)=-2 book(1,1)=-4",
            "tape(6,5,61)=-1 tape(6,0,-1)=-1 tape(6,-1,0)=-1 tape(0,5,-1)=-2 tape(0,5,61)=-2 tape(0,4,-1)=-14 "
                + "tape(0,4,61)=-2", "item(6,-1,0)=-1 item(0,-1,0)=-11 tape(0,0,0) item(0,0,0)=-13",
            "shift(6,-1,0,-1,-1)=-1 shift(0,0,6,0,0)=-1 shift(0,-1,1,0,1)=-11 tape(0,0,1) shift(0,-1,1,0,1)=-11 "
                + "shift(1,-1,0,0,1)=-11 tape(1,1,1) shift(0,-1,1,0,1)=-12 shift(0,0,1,0,-1)=-12 tape(1,0,1) "
                + "shift(0,0,1,0,-1)=-13", "judge(6,-1)=-1 tape(0,2,1) judge(0,-1)=-12 judge(0,1)=-12",
            "points(2) choose(3)=-1 choose(1) choose(3)=-1 choose(1)=-3 goes(4)=-1 goes(3)=-3",
            "at(9,9)=-1 set(9,9)=-1 of(0,9)=-1 face(15,9)=-1 odds(9,9)=NO mean(9,9)=NO");
        says("What is answered so changes nothing; what is asked changes nothing.",
            "make(1) choose(3) points(6)=-2 make(7)=-1 comes(16)=-1 goes(7)=-3 goes(15)=-3 line(1,1,1)=-1 "
                + "line(0,1,2)=-2 choose(6)=-3 drop(6)=-1 told(0)=4 told(1)=10 told(4)=0 told(5)=1 chosen(0)=3",
            "feed(107) feed(128)=-2 feed(-1)=-2 feed(48) read()=1",
            "see(5,0)=-1 see(0,1000)=-2 event(2,7)=-1 event(3,100)=-2 book(0,1)=-1 book(1,2)=-2 count(0)=0 "
                + "count(1)=0 count(2)=0", "undo()=-3 told(1)=5",
            "tape(0,1,2) item(0,1,5) tape(0,5,1)=-2 tape(0,0,61)=-2 tape(0,0,-1)=-14 item(0,2,1)=-13 "
                + "shift(0,0,0,1,2)=-13 peek(0,1)=5 peek(0,0)=0 judge(0,0)=0");
        says("The constants: `NO = Long.MIN_VALUE`: There is no such number.",
            "NO=Least odds(4,0)=NO odds(-1,0)=NO odds(0,2)=NO mean(4,0)=NO mean(0,2)=NO peek(0,0)=NO peek(6,0)=NO");
    }

    private static void promisesOfTheFamily() {
        section = "Promise 1";
        says("Four POINTS, THE FAMILY is BARE.",
            "told(0)=4 " + familyIs(1, 2, 4, 8, 15) + "told(4)=0 told(5)=0 count(0)=0 count(1)=0 count(2)=0 "
                + "count(3)=0 undo()=-3");
        section = "Promise 2";
        says("There are n POINTS, no LINES, THE FAMILY is BARE, no set is CHOSEN (be n as it was, too): how many "
            + "POINTS there were.",
            "points(2)=4 told(0)=2 " + familyIs(1, 2, 3), "points(5)=4 " + familyIs(1, 2, 4, 8, 16, 31) + "points(2)=5",
            "make(3) line(0,1,1) line(2,3,1) choose(1) points(3)=4 " + familyIs(1, 2, 4, 7) + "told(4)=0 told(5)=0 "
                + "line(0,1,1)=0", "line(0,1,1) points(4)=4 told(4)=0",
            "make(3) points(4)=4 " + familyIs(1, 2, 4, 8, 15), "choose(1) points(4)=4 told(5)=0");
        says("BAD.",
            "make(3) line(0,1,1) choose(1) " + each("points(#)=-2", "least", -2, -1, 0, 1, 6, 7, "most") +
                "told(0)=4 told(1)=15 told(4)=1 told(5)=1");
        section = "Promise 3";
        says("THE FAMILY is MADE of a KIND (0 .. 6): how many sets it has.",
            "make(0)=5 make(1)=10 make(2)=13 make(3)=15 make(4)=11 make(5)=7 make(6)=5",
            "points(2) " + each("make(#)=3", 0, 1, 2, 3, 4, 5, 6),
            "points(5) make(0)=6 make(1)=15 make(2)=21 make(3)=31 make(4)=20 make(5)=9 make(6)=6",
            "points(3) make(0)=4 make(1)=6 make(2)=7 make(3)=7 make(4)=6 make(5)=5 make(6)=4",
            "comes(5) make(0)=5 of(5,0)=0");
        says("NONE.",
            "make(3) " + each("make(#)=-1", "least", -1, 7, "most") + "told(1)=15");
        section = "Promise 4";
        says("A set COMES: how many sets THE FAMILY has (also if it was there; CHOSEN stays then).",
            "comes(3)=6 choose(3)=1 comes(3)=6 told(5)=1 comes(1)=6 comes(15)=6 told(5)=1 chosen(0)=3 comes(12)=7 "
                + "told(5)=0", "points(5) make(3) comes(31)=31 comes(1)=31", "comes(3)=6 comes(6)=8");
        says("NONE: no set of POINTS.",
            each("comes(#)=-1", "least", -1, 0, 16, 17, 31, 32, "most") + "told(1)=5 comes(15)=5 comes(1)=5",
            "points(2) comes(4)=-1 comes(3)=3", "points(5) comes(31)=6 comes(32)=-1 comes(33)=-1");
        section = "Promise 5";
        says("A set GOES: how many sets THE FAMILY has.",
            "comes(3)=6 goes(3)=5 of(3,0)=0", "points(5) make(3) goes(3)=30 goes(24)=29",
            "make(1) choose(1) goes(12)=9 told(5)=0");
        says("NONE: it isn't in it;",
            each("goes(#)=-1", "least", -1, 0, 3, 14, 16, 33, "most") + "comes(3) goes(3)=5 goes(3)=-1",
            "points(5) goes(32)=-1 goes(30)=-1");
        says("STATE: it is a single POINT, WHOLE, or THE FAMILY wouldn't be CLOSED.",
            "goes(1)=-3 goes(2)=-3 goes(4)=-3 goes(8)=-3 goes(15)=-3", "points(5) goes(16)=-3 goes(31)=-3",
            "make(1) choose(1) goes(7)=-3 goes(14)=-3 told(1)=10 told(5)=1", "make(3) goes(7)=-3 goes(3)=14",
            "points(5) make(2) goes(30)=-3 goes(17)=20");
        section = "Promise 6";
        says("There is a LINE of two POINTS (is 1), or none (0) (THE FAMILY stays): whether there was (1, 0).",
            "line(0,1,1)=0 line(0,1,1)=1 line(1,0,1)=1 told(4)=1 line(1,0,0)=1 line(0,1,0)=0 told(4)=0",
            "make(3) choose(3) line(2,3,1)=0 told(1)=15 told(5)=1",
            "line(0,1,1) make(6)=6 line(0,1,0)=1 told(1)=6 make(6)=5",
            "points(5) line(3,4,1)=0 line(0,4,1)=0 told(4)=2 line(4,3,1)=1 line(4,0,1)=1 line(0,3,1)=0",
            "points(2) line(0,1,1)=0 told(4)=1");
        says("NONE: either, one twice;",
            each("line(#,0,1)=-1 line(0,#,1)=-1", "least", -1, 4, 5, "most") + "line(0,0,1)=-1 line(3,3,0)=-1 "
                + "told(4)=0", "points(5) line(4,5,1)=-1 line(5,4,1)=-1 line(4,4,1)=-1",
            "points(2) line(1,2,1)=-1 line(2,1,1)=-1");
        says("BAD.",
            each("line(0,1,#)=-2", "least", -1, 2, "most") + "told(4)=0 line(0,1,1) line(0,1,2)=-2 told(4)=1");
        section = "Promise 7";
        says("A set comes to CHOSEN: how many these are.",
            "choose(8)=1 choose(1)=2 choose(4)=3 told(5)=3 chosen(0)=8 chosen(1)=1 chosen(2)=4",
            "points(2) choose(2)=1", "points(5) make(1) choose(15)=1 choose(7)=2 choose(3)=3 choose(1)=4");
        says("NONE: it isn't in THE FAMILY, or WHOLE;",
            each("choose(#)=-1", "least", -1, 0, 3, 15, 16, 33, "most") + "told(5)=0",
            "points(5) choose(31)=-1 choose(32)=-1 choose(15)=-1");
        says("STATE: it is CHOSEN, or they would be no NEST.",
            "choose(1)=1 choose(1)=-3 told(5)=1",
            "make(1) choose(3) choose(6)=-3 choose(4)=-3 choose(12)=-3 choose(7)=2 choose(8)=-3 told(5)=2",
            "choose(1) choose(2) choose(4) choose(8)=-3 choose(4)=-3 told(5)=3", "choose(1) drop(1) choose(1)=1");
        section = "Promise 8";
        says("A set is CHOSEN no more: how many are.",
            "make(1) choose(1) choose(3) choose(7) drop(3)=2 chosen(0)=1 chosen(1)=7 chosen(2)=-5 drop(1)=1 "
                + "chosen(0)=7 drop(7)=0 told(5)=0", "choose(1) drop(1)=0 told(6)=4",
            "points(5) choose(1) choose(2) choose(4) choose(8) drop(1)=3 chosen(0)=2 chosen(1)=4 chosen(2)=8 "
                + "chosen(3)=-5 choose(16)=4 chosen(3)=16 drop(16)=3 chosen(3)=-5",
            "make(1) choose(1) choose(3) choose(7) drop(7)=2 chosen(1)=3 drop(1)=1 choose(2)=2 chosen(0)=3 "
                + "chosen(1)=2");
        says("NONE: it isn't CHOSEN.",
            "choose(1) " + each("drop(#)=-1", "least", -1, 0, 2, 3, 15, 16, 33, "most") + "told(5)=1 drop(1)=0 "
                + "drop(1)=-1", "drop(0)=-1 drop(1)=-1");
        section = "Promise 9";
        says("A sign (0 .. 127) comes behind THE TEXT's: how many it has.",
            "feed(0)=1 feed(127)=2 feed(59)=3 count(3)=3", "feed(107)=1 feed(51)=2 read()=1 told(1)=15 feed(107)=1");
        says("BAD;",
            each("feed(#)=-2", "least", -1, 128, 255, 363, "most") + "count(3)=0");
        says("FULL.",
            "feed(107)*99 feed(0)=100 feed(0)=-4 feed(127)=-4 count(3)=100 read()=-11 count(3)=0 feed(0)=1");
        section = "Promise 10";
        says("THE TEXT, which is empty then (by a FAULT, too), is a set-up: how many CLAUSES were done;",
            "text(k0)=1 count(3)=0 read()=-10", "text(k0x)=-12 count(3)=0 text(k0)=1", "text(k9;n9)=0 count(3)=0",
            "text(k0;k9;k0)=2", "text(" + clauses(12, "k0") + ")=12",
            "text(n5;k1;s04;t04;l01;c0)=6 told(0)=5 told(1)=20 told(4)=1 told(5)=1");
        says("-10 less the FAULT.",
            "read()=-10", "text(x)=-10", "text(k)=-11", "text(kk)=-11", "text(k0k)=-12", "text(k0;k0;k0;x)=-19",
            "points(5) text(" + clauses(12, "s01234") + ";)=-93",
            "points(5) text(" + clauses(11, "s01234") + ";s012340)=-93");
    }

    private static void promisesOfWhatIsTold() {
        section = "Promise 11";
        says("The i-th set of THE FAMILY, the least as bits first, from 0;",
            familyIs(1, 2, 4, 8, 15), "points(5) make(3) family(0)=1 family(15)=16 family(30)=31",
            "comes(9) " + familyIs(1, 2, 4, 8, 9, 15));
        says("-5: there are not as many.",
            "family(4)=15 family(5)=-5 family(most)=-5", "points(5) make(3) family(31)=-5 family(32)=-5",
            "points(2) family(3)=-5");
        says("NONE: i below 0.",
            "family(-1)=-1 family(least)=-1");
        section = "Promise 12";
        says("Of a set whether it is in THE FAMILY (what 0; 1, 0), how many sets of THE FAMILY lie within it (1), "
            + "how many PARTS it has (2), how many POINTS (3).",
            "make(1) of(3,0)=1 of(3,1)=3 of(3,2)=1 of(3,3)=2 of(5,0)=0 of(5,1)=2 of(5,2)=2 of(5,3)=2 of(11,1)=4 "
                + "of(11,2)=2 of(15,1)=10 of(8,1)=1 of(8,2)=1 of(8,3)=1",
            "points(5) make(3) of(31,0)=1 of(31,1)=31 of(31,2)=1 of(31,3)=5 of(1,1)=1",
            "of(7,0)=0 of(7,1)=3 of(7,2)=3 of(7,3)=3");
        says("NONE: no set of POINTS, what.",
            each("of(#,0)=-1 of(#,3)=-1", "least", -1, 0, 16, "most") + each("of(3,#)=-1", "least", -1, 4, "most"),
            "points(2) of(4,0)=-1 of(3,0)=1", "points(5) of(32,0)=-1 of(31,0)=1 of(33,0)=-1");
        section = "Promise 13";
        says("PART k of a set;",
            "make(1) part(11,0)=3 part(11,1)=8 part(7,0)=7 part(5,0)=1 part(5,1)=4");
        says("-5: there are not as many.",
            "make(1) part(11,2)=-5 part(7,1)=-5 part(7,most)=-5", "part(7,2)=4 part(7,3)=-5",
            "points(5) part(30,3)=16 part(30,4)=-5 part(31,1)=-5");
        says("NONE: no set of POINTS, k below 0.",
            each("part(#,0)=-1", "least", -1, 0, 16, "most") + "part(3,-1)=-1 part(3,least)=-1 part(0,-1)=-1 "
                + "part(16,9)=-1", "points(5) part(32,0)=-1");
        section = "Promise 14";
        says("0 n, 1 how many sets THE FAMILY has, 2 how many CORNERS, 3 FARTHEST, 4 how many LINES, 5 how many "
            + "sets are CHOSEN, 6 how many CORNERS have all that are CHOSEN, 7 the first of these.",
            CHAIN3 + "line(0,1,1) told(0)=3 told(1)=5 told(2)=4 told(3)=2 told(4)=1 told(5)=0 told(6)=4 told(7)=0 "
                + "choose(4)=1 told(5)=1 told(6)=2 told(7)=1 choose(2)=2 told(6)=1 told(7)=3",
            CHAIN3 + "choose(2) told(6)=2 told(7)=2", "points(2) told(2)=2 choose(2) told(6)=1 told(7)=1",
            "points(5) make(3) told(2)=120 choose(30) told(6)=24 told(7)=96 choose(16) choose(24) choose(28) "
                + "told(6)=1 told(7)=119", ALL3 + "choose(6) told(7)=4", ALL3 + "choose(4) told(7)=3");
        says("NONE.",
            each("told(#)=-1", "least", -1, 8, "most"));
        section = "Promise 15";
        says("The i-th set that is CHOSEN, as they came, from 0;",
            "make(3) choose(14) choose(2) choose(6) chosen(0)=14 chosen(1)=2 chosen(2)=6",
            "points(5) choose(16) choose(1) choose(8) choose(2) chosen(0)=16 chosen(3)=2");
        says("-5: there are not as many.",
            "chosen(0)=-5 choose(1) chosen(0)=1 chosen(1)=-5 chosen(most)=-5 drop(1) chosen(0)=-5",
            "points(5) choose(16) choose(1) choose(8) choose(2) chosen(4)=-5 chosen(5)=-5");
        says("NONE: i below 0.",
            "chosen(-1)=-1 chosen(least)=-1 choose(1) chosen(-1)=-1");
    }

    private static void promisesOfCorners() {
        section = "Promise 16";
        says("How many NESTS of k sets there are (k 0 .. n - 1).",
            "nests(0)=1 nests(1)=4 nests(2)=6 nests(3)=4", "points(2) nests(0)=1 nests(1)=2",
            "points(5) make(3) nests(0)=1 nests(1)=30 nests(2)=150 nests(3)=240 nests(4)=120",
            CHAIN3 + "nests(0)=1 nests(1)=4 nests(2)=4");
        says("BAD.",
            each("nests(#)=-2", "least", -1, 4, 5, "most") + "nests(3)=4", "points(2) nests(2)=-2",
            "points(3) nests(3)=-2 nests(2)=3", "points(5) nests(5)=-2 nests(4)=5");
        section = "Promise 17";
        says("How many CORNERS have RISES k (k 0 .. n - 1).",
            CHAIN3 + "risen(0)=1 risen(1)=2 risen(2)=1", "points(2) risen(0)=1 risen(1)=1",
            "risen(0)=1 risen(1)=1 risen(2)=1 risen(3)=1",
            "points(5) make(3) risen(0)=1 risen(1)=26 risen(2)=66 risen(3)=26 risen(4)=1", ALL3 + "risen(1)=4");
        says("BAD.",
            each("risen(#)=-2", "least", -1, 4, 5, "most") + "risen(3)=1", "points(2) risen(2)=-2",
            "points(3) risen(3)=-2 risen(2)=1", "points(5) risen(5)=-2 risen(4)=1");
        section = "Promise 18";
        says("What a CORNER stands AT for a POINT.",
            CHAIN3 + "at(0,1)=2 at(3,0)=3 at(1,1)=3", "points(2) at(1,0)=2",
            "points(5) make(3) at(119,0)=16 at(0,4)=16");
        says("NONE: corner, point.",
            each("at(#,0)=-1 at(0,#)=-1", "least", -1, 4, "most") + "at(3,3)=1 at(-1,-1)=-1",
            "points(5) make(3) at(120,0)=-1 at(119,5)=-1 at(119,4)=1", "points(2) at(0,2)=-1 at(2,0)=-1",
            "points(5) make(3) at(119,0)=16 make(0) at(5,0)=-1 at(4,0)=2");
        section = "Promise 19";
        says("Set k of a CORNER.",
            CHAIN3 + "set(0,1)=3 set(3,1)=4 set(2,0)=2",
            "points(5) make(3) set(0,0)=1 set(0,3)=15 set(119,0)=16 set(119,3)=30", "points(2) set(0,0)=1 set(1,0)=2");
        says("NONE: corner, k (0 .. n - 2).",
            each("set(#,0)=-1", "least", -1, 4, "most") + each("set(0,#)=-1", "least", -1, 3, 4, "most") + "set(3,2)=8",
            "points(2) set(0,1)=-1 set(2,0)=-1", "points(5) make(3) set(119,4)=-1 set(120,0)=-1");
        section = "Promise 20";
        says("FLIP k of a CORNER: its number.",
            CHAIN3 + "flip(0,0)=2 flip(0,1)=1 flip(3,0)=1 flip(3,1)=2", "points(2) flip(0,0)=1 flip(1,0)=0",
            "points(5) make(3) flip(0,0)=24 flip(0,3)=1 flip(119,3)=95");
        says("NONE: corner, k.",
            each("flip(#,0)=-1", "least", -1, 4, "most") + each("flip(0,#)=-1", "least", -1, 3, 4, "most") +
                "flip(3,2)=0", "points(2) flip(0,1)=-1 flip(2,0)=-1",
            "points(5) make(3) flip(119,4)=-1 flip(120,0)=-1");
        section = "Promise 21";
        says("RISES of a CORNER (what 0), how many ORDERS LEAD to it (1), its WORTH (2).",
            CHAIN3 + "corner(0,0)=2 corner(0,1)=1 corner(0,2)=221 corner(1,0)=1 corner(1,1)=2 corner(1,2)=131 "
                + "corner(3,1)=2", "corner(0,0)=3 corner(0,1)=6 corner(0,2)=2111",
            "points(2) corner(0,1)=1 corner(1,1)=1", "points(5) corner(4,0)=0 corner(4,1)=24 corner(4,2)=11112",
            STAR3 + "corner(4,1)=2", STAR3 + "corner(3,1)=1");
        says("NONE: corner, what.",
            each("corner(#,0)=-1", "least", -1, 4, "most") + each("corner(0,#)=-1", "least", -1, 3, "most"),
            "points(5) make(3) corner(120,0)=-1 corner(119,2)=12496");
        section = "Promise 22";
        says("STEPS of two CORNERS.",
            CHAIN3 + "steps(0,3)=2 steps(3,0)=2 steps(1,1)=0 steps(0,1)=1", "points(5) make(3) steps(0,119)=10");
        says("NONE: either.",
            each("steps(#,0)=-1 steps(0,#)=-1", "least", -1, 4, "most") + "steps(4,4)=-1 steps(3,3)=0",
            "points(5) make(3) steps(119,120)=-1 steps(120,119)=-1 steps(120,120)=-1");
        section = "Promise 23";
        says("Of a FACE how many CORNERS lie on it (what 0), the first of these (1), over all CORNERS the least "
            + "that what one stands AT for the POINTS of the FACE is, together (2).",
            CHAIN3 + "face(1,0)=2 face(1,1)=0 face(1,2)=1 face(2,1)=2 face(2,2)=1 face(3,0)=2 face(3,1)=0 "
                + "face(3,2)=3 face(4,1)=1 face(4,2)=1", "points(2) face(2,0)=1 face(2,1)=1 face(2,2)=1 face(1,2)=1",
            "points(5) make(3) face(16,0)=24 face(24,0)=12 face(24,2)=3 face(30,1)=96 face(30,2)=15 face(15,2)=15",
            ALL3 + "face(3,2)=3", ALL3 + "face(6,1)=4");
        says("NONE: no FACE, what.",
            each("face(#,0)=-1 face(#,2)=-1", "least", -1, 0, 3, 15, 16, "most") + each("face(1,#)=-1", "least", -1,
                3, "most"), "points(5) face(31,0)=-1 face(32,0)=-1 face(33,0)=-1");
        section = "Promise 24";
        says("The CORNER to which an ORDER LEADS.",
            CHAIN3 + "leads(123)=3 leads(213)=1 leads(312)=2 leads(321)=0", "points(5) leads(51234)=0 leads(12345)=4",
            "points(2) leads(12)=1");
        says("BAD: it is no ORDER.",
            each("leads(#)=-2", "least", -1234, -1, 0, 1, 123, 234, 1233, 1224, 1231, 1214, 1213, 1321, 4324, 1230,
                1204, 1235, 5234, 12345, 11234, 12340, "most") + "leads(1234)=3");
    }

    private static void promisesOfSeenEventsBooks() {
        section = "Promise 25";
        says("What is SEEN comes: how many there are (k -1: none then, 0, whatever the rest is).",
            "see(0,1)=1 see(0,1)=2 see(4,999)=3 see(-1,least)=0 count(0)=0 see(0,0)=1 see(-1,1000)=0 see(-1,most)=0",
            "see(3,14)=1 fits()=2 see(-1,5)=0 fits()=127", "see(0,0)*4 see(-1,0)=0 see(0,0)=1");
        says("NONE: k;",
            each("see(#,0)=-1", "least", -2, 5, "most") + "count(0)=0 see(4,0)=1 see(0,0)=2",
            "points(2) see(4,0)=1 see(5,0)=-1");
        says("BAD: n (0 .. 999);",
            each("see(0,#)=-2", "least", -1, 1000, "most") + "count(0)=0 see(0,0)=1 see(0,999)=2");
        says("FULL: 4.",
            "see(0,1)*3 see(0,1)=4 see(0,1)=-4 see(4,0)=-4 count(0)=4 fits()=127");
        section = "Promise 26";
        says("FITS (bits).",
            "fits()=127", "see(3,14) fits()=2", "see(3,24) fits()=8", "see(3,4) fits()=65 see(3,14) fits()=0",
            "see(3,8) fits()=32", "see(3,20) fits()=4", "see(3,16) fits()=16", "points(2) see(1,2) fits()=127",
            "see(3,999) fits()=0");
        section = "Promise 27";
        says("ODDS; part 0 above, 1 below the line.",
            CHAIN3 + "odds(0,0)=1 odds(0,1)=6 odds(1,0)=1 odds(1,1)=3", "points(5) odds(0,0)=1 odds(0,1)=5");
        says("NO: corner, part.",
            each("odds(#,0)=NO odds(#,1)=NO", "least", -1, 4, "most") + each("odds(0,#)=NO", "least", -1, 2, "most")
                + "odds(3,1)=4", "points(5) make(3) odds(120,0)=NO odds(119,1)=120");
        section = "Promise 28";
        says("MEAN; part likewise.",
            CHAIN3 + "mean(0,0)=7 mean(0,1)=4 mean(2,0)=3 mean(2,1)=2", "mean(3,0)=5 mean(3,1)=4",
            "points(5) make(3) mean(4,0)=31 mean(4,1)=5");
        says("NO: point, part.",
            each("mean(#,0)=NO mean(#,1)=NO", "least", -1, 4, 5, "most") + each("mean(0,#)=NO", "least", -1, 2, "most"),
            "points(2) mean(2,0)=NO mean(1,0)=3", "points(5) mean(5,0)=NO mean(4,0)=6");
        section = "Promise 29";
        says("A row comes to EVENTS: how many there are (what -1: none then, 0, whatever the rest is).",
            "event(0,15)=1 event(1,1)=2 event(2,6)=3 event(3,99)=4 event(-1,least)=0 count(1)=0 event(2,0)=1 "
                + "event(-1,most)=0", "event(2,3) after(0)=15 event(-1,7)=0 after(0)=5",
            "event(2,0)*8 event(-1,0)=0 event(2,0)=1", "event(3,0)=1");
        says("NONE: what (0 .. 3), no set n of POINTS as they are now (0, 1), no KIND n;",
            each("event(#,1)=-1", "least", -2, 4, "most") + each("event(0,#)=-1 event(1,#)=-1", "least", -1, 0, 16,
                "most") + each("event(2,#)=-1", "least", -1, 7, "most") + "count(1)=0 event(0,1)=1 event(1,15)=2 "
                + "event(2,0)=3 event(2,6)=4", "points(2) event(0,4)=-1 event(1,4)=-1 event(0,3)=1",
            "points(5) event(0,31)=1 event(1,31)=2 event(0,32)=-1 event(1,32)=-1 points(4) event(0,31)=-1");
        says("BAD: n by 3 (0 .. 99);",
            each("event(3,#)=-2", "least", -1, 100, "most") + "count(1)=0 event(3,0)=1 event(3,99)=2");
        says("FULL: 8.",
            "event(2,0)*7 event(2,0)=8 event(2,3)=-4 event(0,1)=-4 event(1,1)=-4 event(3,0)=-4 count(1)=8 after(0)=5");
        section = "Promise 30";
        says("AFTER: what 0 how many sets, 1 how many CORNERS, 2 FARTHEST.",
            "after(0)=5 after(1)=4 after(2)=1 event(2,1) after(0)=10 after(1)=14 after(2)=4 told(1)=5 told(2)=4 "
                + "told(3)=1");
        says("NONE.",
            each("after(#)=-1", "least", -1, 3, "most") + "event(2,3) after(3)=-1");
        section = "Promise 31";
        says("A row comes to the BOOK: how many there are (set -1: it is empty then, 0, whatever the rest is).",
            "book(1,1)=1 book(15,0)=2 book(-1,least)=0 count(2)=0 looked()=-5 book(1,1)=1 book(-1,2)=0 book(-1,most)=0",
            "book(1,1)*8 book(-1,0)=0 book(1,1)=1");
        says("NONE: no set of POINTS;",
            each("book(#,1)=-1", "least", -2, 0, 16, "most") + "count(2)=0 book(15,1)=1 book(1,1)=2",
            "points(2) book(4,0)=-1 book(3,0)=1", "points(5) book(31,1)=1 book(32,1)=-1");
        says("BAD: is (0, 1);",
            each("book(1,#)=-2", "least", -1, 2, "most") + "count(2)=0 book(1,0)=1 book(1,1)=2");
        says("FULL: 8.",
            "book(1,1)*7 book(1,1)=8 book(1,0)=-4 book(3,1)=-4 count(2)=8 looked()=-5");
        section = "Promise 32";
        says("LOOKED at; -5.",
            "looked()=-5 book(1,0) looked()=0",
            "book(1,1) book(3,0) looked()=-5 comes(3) looked()=1 goes(3) looked()=-5");
    }

    private static void promisesOfImageAndTapes() {
        section = "Promise 33";
        says("JUDGED from place i of a TAPE on.",
            "points(2) tape(0,1,4) item(0,1,1) item(0,2,2) item(0,3,3) judge(0,1)=-5 judge(0,0)=0 judge(0,2)=0 "
                + "judge(0,3)=0 judge(0,4)=100 judge(0,-1)=100",
            "points(2) tape(5,1,3) item(5,0,1) judge(5,0)=1 item(5,1,2) judge(5,0)=2 item(5,2,3) judge(5,0)=-5",
            "points(2) tape(0,1,1) item(0,0,1) judge(0,0)=101");
        says("NONE: tape;",
            each("judge(#,0)=-1 judge(#,-1)=-1", "least", -1, 6, "most") + "judge(5,0)=100");
        says("CAST: it is no row of shorts.",
            each("tape(0,#,9) judge(0,0)=-12 judge(0,9)=-12", 0, 2, 3, 4) + "tape(0,1,9) judge(0,0)=0 tape(0,-1,9) "
                + "judge(0,0)=100", "tape(0,0,0) judge(0,0)=-12");
        section = "Promise 34";
        says("THE IMAGE is taken: how many sets THE FAMILY has.",
            "image()=5 make(3) image()=15 make(1) undo()=15 told(1)=15", "points(2) image()=3");
        section = "Promise 35";
        says("All is as THE IMAGE: how many sets THE FAMILY has.",
            "make(1) image() make(3) undo()=10 told(1)=10", "image() points(2) undo()=5 told(0)=4",
            "image() make(3) undo()=5 make(3) undo()=5 told(1)=5",
            "image() undo()=5 comes(3) choose(3) see(0,1) event(2,0) book(1,1) line(0,1,1) undo()=5 told(1)=5 "
                + "told(4)=0 told(5)=0 count(0)=0 count(1)=0 count(2)=0");
        says("STATE: there is none.",
            "undo()=-3 make(3) undo()=-3 told(1)=15 image()=15 undo()=15");
        section = "Promise 36";
        says("How many: 0 SEEN, 1 EVENTS, 2 of the BOOK, 3 bytes of THE TEXT.",
            "count(0)=0 count(1)=0 count(2)=0 count(3)=0",
            "see(0,1) event(2,1)*2 book(1,1)*3 feed(0)*4 count(0)=1 count(1)=2 count(2)=3 count(3)=4",
            "feed(0)*100 count(3)=100 see(0,0)*4 count(0)=4 event(2,0)*8 count(1)=8 book(1,1)*8 count(2)=8");
        says("BAD.",
            each("count(#)=-2", "least", -1, 4, "most"));
        section = "Promise 37";
        says("A TAPE becomes a row of n (0 .. 60) of a sort, all 0, or holds nothing (sort -1: n does not matter): 1.",
            "tape(0,0,0)=1 peek(0,0)=NO item(0,0,1)=-13", "tape(5,3,60)=1 peek(5,0)=0 peek(5,59)=0 peek(5,60)=NO",
            "tape(0,3,2) item(0,0,6) item(0,1,7) tape(0,3,2)=1 peek(0,0)=0 peek(0,1)=0",
            "tape(0,3,9) item(0,8,7) tape(0,3,2)=1 peek(0,8)=NO tape(0,3,9)=1 peek(0,8)=0",
            each("tape(0,1,1) tape(0,-1,#)=1 item(0,0,1)=-11", "least", -1, 0, 60, 61, "most"),
            each("tape(0,#,1)=1 peek(0,0)=0", 0, 1, 2, 3, 4), "tape(0,0,60) tape(1,0,60) item(0,7,7) peek(1,7)=0");
        says("NONE: tape;",
            each("tape(#,0,1)=-1 tape(#,-1,0)=-1", "least", -1, 6, "most"));
        says("BAD: sort, n above 60;",
            "tape(0,1,2) item(0,1,7) " + each("tape(0,#,1)=-2", "least", -2, 5, "most") + each("tape(0,0,#)=-2", 61,
                62, "most") + "tape(0,4,61)=-2 peek(0,1)=7 tape(0,4,60)=1");
        says("SIZE.",
            "tape(0,1,2) item(0,1,7) tape(0,0,-1)=-14 tape(0,4,-1)=-14 tape(0,1,least)=-14 peek(0,1)=7 tape(0,1,0)=1");
        section = "Promise 38";
        says("Item i of a TAPE becomes v (its lowest bits, as many as an item has; booleans: whether v is not 0): 1.",
            "tape(0,0,2) item(0,1,255)=1 peek(0,1)=-1 item(0,1,256)=1 peek(0,1)=0 item(0,1,-257)=1 peek(0,1)=-1 "
                + "peek(0,0)=0",
            "tape(0,1,1) item(0,0,65535)=1 peek(0,0)=-1 item(0,0,65536)=1 peek(0,0)=0 item(0,0,-32769) peek(0,0)=32767",
            "tape(0,2,1) item(0,0,4294967295)=1 peek(0,0)=-1 item(0,0,4294967296)=1 peek(0,0)=0",
            "tape(0,3,1) item(0,0,Least)=1 peek(0,0)=Least item(0,0,-1) peek(0,0)=-1",
            "tape(0,4,1) item(0,0,256)=1 peek(0,0)=1 item(0,0,0)=1 peek(0,0)=0 item(0,0,4294967296)=1 peek(0,0)=1 "
                + "item(0,0,Least)=1 peek(0,0)=1",
            "tape(0,2,60) item(0,59,5)=1 item(0,0,6)=1 peek(0,59)=5 peek(0,0)=6 peek(0,58)=0");
        says("NONE;",
            each("item(#,0,1)=-1", "least", -1, 6, "most"));
        says("NOTHING;",
            "item(0,0,1)=-11 item(5,-1,1)=-11 tape(5,0,1) tape(5,-1,0) item(5,0,1)=-11");
        says("PLACE.",
            "tape(0,0,5) " + each("item(0,#,1)=-13", "least", -1, 5, 6, 60, "most") + "item(0,4,1)=1 tape(1,0,0) "
                + "item(1,0,1)=-13", "tape(0,3,60) item(0,60,1)=-13 item(0,59,1)=1");
        section = "Promise 39";
        says("Item i of a TAPE.",
            "tape(3,3,60) item(3,0,5) item(3,59,6) peek(3,0)=5 peek(3,59)=6 peek(3,1)=0",
            "tape(0,3,1) item(0,0,Most) peek(0,0)=Most");
        says("NO: no such TAPE, nothing there, no such place.",
            each("peek(#,0)=NO", "least", -1, 6, "most") + each("peek(#,0)=NO", 0, 5),
            "tape(0,3,5) " + each("peek(0,#)=NO", "least", -1, 5, 60, "most") + "peek(0,4)=0",
            "tape(0,3,0) peek(0,0)=NO", "tape(0,3,5) tape(0,-1,0) peek(0,0)=NO");
        section = "Promise 40";
        says("n items of a TAPE from i on come to another one (or the same) from j on, as they all were before: n.",
            "tape(0,3,4) item(0,0,1) item(0,1,2) item(0,2,3) item(0,3,4) tape(1,3,3) shift(0,1,1,0,3)=3 "
                + "peek(1,0)=2 peek(1,1)=3 peek(1,2)=4 peek(0,1)=2 peek(0,0)=1",
            "tape(0,3,4) item(0,0,1) item(0,1,2) item(0,2,3) item(0,3,4) shift(0,0,0,1,3)=3 peek(0,0)=1 "
                + "peek(0,1)=1 peek(0,2)=2 peek(0,3)=3",
            "tape(0,3,4) item(0,0,1) item(0,1,2) item(0,2,3) item(0,3,4) shift(0,1,0,0,3)=3 peek(0,0)=2 "
                + "peek(0,1)=3 peek(0,2)=4 peek(0,3)=4",
            "tape(0,1,4) tape(5,1,2) item(0,3,9) shift(0,4,5,2,0)=0 shift(0,3,5,1,1)=1 peek(5,1)=9 peek(5,0)=0 "
                + "judge(5,0)=0", "tape(0,4,0) tape(1,4,0) shift(0,0,1,0,0)=0 shift(0,0,0,0,0)=0");
        says("NONE: tapes;",
            "tape(0,0,1) " + each("shift(#,0,0,0,1)=-1 shift(0,0,#,0,1)=-1", "least", -1, 6, "most"));
        says("NOTHING;",
            "tape(0,0,1) shift(0,0,1,0,1)=-11 shift(1,0,0,0,1)=-11 shift(1,0,1,0,1)=-11 shift(1,0,2,0,0)=-11");
        says("CAST: of unlike sorts;",
            "tape(0,0,1) tape(1,1,1) tape(2,2,1) tape(3,3,1) tape(4,4,1) " + each("shift(0,0,#,0,1)=-12 "
                + "shift(#,0,0,0,0)=-12", 1, 2, 3, 4) + "shift(1,0,2,0,1)=-12 shift(3,0,4,0,1)=-12 "
                + "shift(2,0,3,0,1)=-12");
        says("PLACE: n, i or j is below 0, or beyond either's end.",
            "tape(0,3,5) tape(1,3,3) item(0,0,7) " + each("shift(0,0,1,0,#)=-13 shift(0,#,1,0,1)=-13 "
                + "shift(0,0,1,#,1)=-13", "least", -1, 6, "most") + "shift(0,5,1,0,1)=-13 shift(0,0,1,3,1)=-13 "
                + "shift(0,3,1,0,3)=-13 shift(0,0,1,1,3)=-13 shift(0,0,1,0,4)=-13 shift(1,0,0,0,4)=-13 "
                + "shift(0,6,1,0,0)=-13 shift(0,0,1,4,0)=-13 shift(0,-1,1,0,0)=-13 shift(0,0,1,-1,0)=-13 "
                + "shift(0,most,1,0,most)=-13 shift(0,1,1,0,most)=-13 shift(0,2,1,2,most)=-13 "
                + "shift(0,most,0,most,0)=-13 peek(1,0)=0 peek(1,2)=0 shift(0,5,1,3,0)=0 shift(0,2,1,0,3)=3 "
                + "shift(0,4,1,2,1)=1");
    }

    // ---- running them

    private static void hold(Sentence s, String run, List<String> wrong) {
        NestedBodies x = new NestedBodies();
        List<Call> calls = calls(run);
        if (calls.size() > MOST_CALLS) {
            wrong.add("a run of more than 512 calls: " + run);
        }
        for (Call call : calls) {
            String got = answer(x, call);
            boolean isDue = call.due == null ? got.matches("-?\\d+") : got.equals(call.due.toString());
            if (!isDue) {
                wrong.add(s.section + ", '" + s.quote + "': " + call.text + " answered " + got + ", due is "
                    + (call.due == null ? "a number" : call.due) + ", in " + run);
                return;
            }
        }
    }

    private static List<Call> calls(String run) {
        List<Call> calls = new ArrayList<>();
        Matcher m = CALL.matcher(run);
        int end = 0;
        while (end < run.length()) {
            if (!m.find(end) || m.start() != end) {
                throw new IllegalStateException("no call at " + end + " of " + run);
            }
            end = m.end();
            Long due = m.group(4) == null ? null : (Long) number(m.group(4));
            if (m.group(1).equals("text")) {
                for (char sign : m.group(2).toCharArray()) {
                    calls.add(new Call("feed(" + (int) sign + ")", "feed", new long[] {sign}, null));
                }
                calls.add(new Call("read() of " + m.group(2), "read", new long[0], due));
                continue;
            }
            int times = m.group(3) == null ? 1 : Integer.parseInt(m.group(3));
            for (int i = 0; i < times; i++) {
                calls.add(new Call(m.group(1) + "(" + m.group(2) + ")", m.group(1), numbers(m.group(2)), due));
            }
        }
        return calls;
    }

    private static long[] numbers(String list) {
        if (list == null || list.isEmpty()) {
            return new long[0];
        }
        return Arrays.stream(list.split(",")).mapToLong(SentencesTest::number).toArray();
    }

    private static long number(String word) {
        return WORDS.containsKey(word) ? WORDS.get(word) : Long.parseLong(word);
    }

    /** What a call answers, or what it throws. */
    private static String answer(NestedBodies x, Call call) {
        try {
            if (Character.isUpperCase(call.name.charAt(0))) {
                return NestedBodies.class.getField(call.name).get(null).toString();
            }
            Method method = METHODS.get(call.name);
            Object[] arguments = new Object[call.arguments.length];
            for (int i = 0; i < arguments.length; i++) {
                boolean isWide = method.getParameterTypes()[i] == long.class;
                arguments[i] = isWide ? (Object) call.arguments[i] : (Object) (int) call.arguments[i];
            }
            return method.invoke(x, arguments).toString();
        } catch (InvocationTargetException e) {
            return "by throwing " + e.getCause();
        } catch (ReflectiveOperationException e) {
            throw new IllegalStateException(call.text, e);
        }
    }

    // ---- what is asked or refused changes nothing

    /** For each call of each run that is asked or refused: an object that had it is as one that hadn't. */
    private static void whatIsAskedOrRefusedChangesNothing(List<String> wrong) {
        for (Sentence s : SENTENCES) {
            for (String run : s.runs) {
                List<Call> calls = calls(run);
                for (int i = 0; i < calls.size() && i < MOST_CALLS - CALLS_FOR_ALL; i++) {
                    if (changes(calls, i)) {
                        wrong.add(s.section + ", '" + s.quote + "': " + calls.get(i).text
                            + " changed something, in " + run);
                    }
                }
            }
        }
    }

    private static boolean changes(List<Call> calls, int i) {
        NestedBodies with = new NestedBodies();
        NestedBodies without = new NestedBodies();
        for (Call call : calls.subList(0, i)) {
            answer(with, call);
            answer(without, call);
        }
        Call call = calls.get(i);
        String got = answer(with, call);
        if (!ASKED.contains(call.name) && !isRefused(call.name, got)) {
            return false;
        }
        return !allOf(with).equals(allOf(without));
    }

    private static boolean isRefused(String name, String got) {
        return !name.equals("read") && got.startsWith("-") && !got.equals("-5");
    }

    /** All that can be told of an object, which changes it. */
    private static List<Long> allOf(NestedBodies x) {
        List<Long> all = new ArrayList<>();
        setUpOf(x, all);
        for (int t = 0; t < 6; t++) {
            tapeOf(x, t, all);
        }
        all.add((long) x.read());
        setUpOf(x, all);
        all.add((long) x.undo());
        setUpOf(x, all);
        return all;
    }

    private static void setUpOf(NestedBodies x, List<Long> all) {
        for (int what = 0; what < 8; what++) {
            all.add((long) (what < 4 ? x.count(what) : x.chosen(what - 4)));
        }
        for (int what = 0; what < 8; what++) {
            all.add((long) x.told(what));
        }
        for (int i = 0; i < 32; i++) {
            all.add((long) x.family(i));
        }
        // what was SEEN, the EVENTS, the BOOK, LINES show in other families
        for (int kind = -1; kind < 7; kind++) {
            for (int answer : new int[] {x.make(kind), x.looked(), x.fits(), x.after(0), x.after(1), x.at(1, 1)}) {
                all.add((long) answer);
            }
        }
    }

    private static void tapeOf(NestedBodies x, int t, List<Long> all) {
        all.add((long) x.judge(t, 0));
        all.add((long) x.shift(t, 2, t, 2, 0));
        for (int i : new int[] {0, 1, 2, 4, 8, 58, 59}) {
            all.add(x.peek(t, i));
        }
        // tells the sort
        all.add((long) x.item(t, 0, 0x123456789ABCDEF0L));
        all.add(x.peek(t, 0));
    }

    // ---- the document

    private static void lookUp(String document, List<String> wrong) {
        Map<String, String> texts = new HashMap<>();
        Map<String, BitSet> quoted = new HashMap<>();
        for (String part : document.split("(?m)^## ")) {
            String heading = part.lines().findFirst().orElse("").replaceAll(":.*", "").trim();
            texts.put(heading, wordsOf(part.substring(part.indexOf('\n') + 1)));
            quoted.put(heading, new BitSet());
        }
        for (Sentence s : SENTENCES) {
            int at = texts.getOrDefault(s.section, "").indexOf(s.quote);
            if (at < 0) {
                wrong.add(s.section + " doesn't say '" + s.quote + "'");
            } else {
                quoted.get(s.section).set(at, at + s.quote.length());
            }
        }
        for (String heading : texts.keySet()) {
            if (heading.equals("Terms") || heading.startsWith("Promise")) {
                tellUnquoted(heading, texts.get(heading), quoted.get(heading), wrong);
            }
        }
        for (int promise = 1; promise <= 40; promise++) {
            if (!texts.containsKey("Promise " + promise)) {
                wrong.add("the document has no promise " + promise);
            }
        }
    }

    /** A section's sentences, without what only frames them. */
    private static String wordsOf(String section) {
        return section.replaceAll("(?m)^Ahead of the calls.*$", " ").replaceAll("```(text|java)?", " ")
            .replaceAll("(?m)^`[^`]*`: ", " ").replaceAll("==== \\d", " ").replaceAll("\\s+", " ");
    }

    private static void tellUnquoted(String heading, String text, BitSet quoted, List<String> wrong) {
        int from = quoted.nextClearBit(0);
        while (from < text.length()) {
            int to = quoted.nextSetBit(from) < 0 ? text.length() : quoted.nextSetBit(from);
            if (text.substring(from, to).matches(".*[A-Za-z0-9].*")) {
                wrong.add(heading + " has a sentence without a test: '" + text.substring(from, to) + "'");
            }
            from = quoted.nextClearBit(to);
        }
    }
}
