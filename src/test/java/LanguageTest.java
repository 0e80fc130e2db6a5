import java.io.IOException;
import java.lang.reflect.Field;
import java.lang.reflect.Method;
import java.lang.reflect.Modifier;
import java.nio.file.Files;
import java.nio.file.Path;
import java.util.ArrayList;
import java.util.Collections;
import java.util.List;
import java.util.Set;
import java.util.TreeSet;
import java.util.regex.Matcher;
import java.util.regex.Pattern;

/** The document's face and those rules of LANGUAGE.md that can be read off the class and its source. */
public final class LanguageTest {
    private static final String[] FACE = {"points(int)", "make(int)", "comes(int)", "goes(int)", "line(int,int,int)",
        "choose(int)", "drop(int)", "feed(int)", "read()", "family(int)", "of(int,int)", "part(int,int)", "told(int)",
        "chosen(int)", "nests(int)", "risen(int)", "at(int,int)", "set(int,int)", "flip(int,int)", "corner(int,int)",
        "steps(int,int)", "face(int,int)", "leads(int)", "see(int,int)", "fits()", "odds(int,int)", "mean(int,int)",
        "event(int,int)", "after(int)", "book(int,int)", "looked()", "judge(int,int)", "image()", "undo()", "count(int)",
        "tape(int,int,int)", "item(int,int,long)", "peek(int,int)", "shift(int,int,int,int,int)"};
    private static final String FORBIDDEN = "throw|throws|try|catch|synchronized|assert|import|package|protected|volatile"
        + "|transient|native|Thread|Random|Object|Exception|System\\.(?!arraycopy)\\w+|Math\\.\\w+Exact|->|::";
    private static int wrong = 0;

    private static void due(String what, Object got, Object want) {
        if (!got.equals(want)) {
            wrong++;
            System.out.println(what + " is " + got + ", due is " + want);
        }
    }

    public static void main(String[] args) throws IOException {
        Set<String> names = face();
        nestedClasses(names);
        source(Files.readString(Path.of(args.length > 0 ? args[0] : "src/main/java/NestedBodies.java")));
        System.out.println("face and language: " + wrong + " wrong");
        if (wrong != 0) {
            System.exit(1);
        }
    }

    private static Set<String> face() {
        Set<String> names = new TreeSet<>();
        List<String> got = new ArrayList<>();
        List<String> due = new ArrayList<>(List.of(FACE));
        for (Method m : NestedBodies.class.getDeclaredMethods()) {
            if (Modifier.isPrivate(m.getModifiers()) || m.isSynthetic()) {
                continue;
            }
            names.add(m.getName());
            List<String> types = new ArrayList<>();
            for (Class<?> type : m.getParameterTypes()) {
                types.add(type.getName());
            }
            got.add(m.getName() + "(" + String.join(",", types) + ")");
            boolean wide = List.of("odds", "mean", "peek").contains(m.getName());
            due("type of " + m.getName(), m.getReturnType(), wide ? long.class : int.class);
            due("modifiers of " + m.getName(), m.getModifiers(), Modifier.PUBLIC);
        }
        Collections.sort(got);
        Collections.sort(due);
        due("the face", got, due);
        for (Field f : NestedBodies.class.getDeclaredFields()) {
            boolean isPublic = Set.of("NONE", "BAD", "STATE", "FULL", "NO").contains(f.getName());
            due("public " + f.getName(), Modifier.isPublic(f.getModifiers()), isPublic);
            due("private " + f.getName(), Modifier.isPrivate(f.getModifiers()), !isPublic);
        }
        due("constructors", NestedBodies.class.getDeclaredConstructors().length, 1);
        due("modifiers", NestedBodies.class.getModifiers(), Modifier.PUBLIC | Modifier.FINAL);
        due("NO", NestedBodies.NO, Long.MIN_VALUE);
        due("NONE, BAD, STATE, FULL", List.of(NestedBodies.NONE, NestedBodies.BAD, NestedBodies.STATE, NestedBodies.FULL),
            List.of(-1, -2, -3, -4));
        return names;
    }

    private static void nestedClasses(Set<String> names) {
        for (Method m : NestedBodies.class.getDeclaredMethods()) {
            if (Modifier.isPrivate(m.getModifiers())) {
                due("private " + m.getName() + " bears a public name", names.contains(m.getName()), false);
            }
        }
        Class<?>[] classes = NestedBodies.class.getDeclaredClasses();
        due("at most twelve classes", classes.length <= 11, true);
        for (Class<?> c : classes) {
            due(c + " is static", Modifier.isStatic(c.getModifiers()), true);
            due(c + " has at most twenty fields", c.getDeclaredFields().length <= 20, true);
            for (Method m : c.getDeclaredMethods()) {
                due(c + " bears a public name: " + m.getName(), names.contains(m.getName()), false);
                due("parameters of " + m.getName(), m.getParameterCount() <= 7, true);
            }
            for (Field f : c.getDeclaredFields()) {
                due(c + " has static " + f.getName(), Modifier.isStatic(f.getModifiers()), false);
            }
        }
    }

    private static void source(String source) {
        String code = source.replaceAll("(?s)/\\*.*?\\*/", " ").replaceAll("//[^\n]*", " ");
        Matcher matcher = Pattern.compile("\\b(" + FORBIDDEN + ")|->|::").matcher(code);
        while (matcher.find()) {
            due("in the source", matcher.group(), "nothing of the kind");
        }
        for (int i = 0; i < source.length(); i++) {
            if (source.charAt(i) > 127) {
                due("sign " + i + " of the source", (int) source.charAt(i), "1 to 127");
            }
        }
    }
}
