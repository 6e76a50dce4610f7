import java.lang.reflect.Constructor;
import java.lang.reflect.Field;
import java.lang.reflect.Method;
import java.lang.reflect.Modifier;
import java.nio.file.Files;
import java.nio.file.Path;
import java.util.ArrayList;
import java.util.Arrays;
import java.util.List;
import java.util.Set;
import java.util.TreeSet;
import java.util.regex.Matcher;
import java.util.regex.Pattern;

/** The class's face, and the rules of LANGUAGE.md that can be seen from outside or in the text of the file. */
public final class FaceTest {
    private static final String[] FACE = {
        "feed 1", "town 0", "fault 0", "told 1", "man 2", "mishap 2", "belief 2",
        "blame 2", "clear 2", "walk 3", "sunset 0", "drift 1", "undo 1",
        "may 1", "orphans 0", "shared 1", "cheapest 1", "culprits 1", "idle 0", "nearer 3", "chain 2", "quiet 2",
        "see 3", "alibi 1", "write 2", "judge 0", "tear 0", "seed 1", "keep 1", "goBack 1"};

    public static void main(String[] args) throws Exception {
        constants();
        methods();
        members();
        insideClasses();
        String source = Files.readString(Path.of("src/main/java/BlameTown.java"));
        text(source);
        asTheDocumentHasIt(Files.readString(Path.of("..", "shared", "DOC.md")), source);
        Due.end();
    }

    /** The code block's lines stand in the class in their order, under the headings that the document names. */
    private static void asTheDocumentHasIt(String document, String source) {
        Matcher block = Pattern.compile("(?s)```java\n(.*?)```").matcher(document);
        Due.that("the document has a code block", block.find());
        int from = 0;
        for (String line : block.group(1).split("\n")) {
            String due = line.trim().replaceAll("\\);$", ") {");
            int at = source.indexOf(due, from);
            Due.that("in its place: " + due, at >= 0);
            from = Math.max(from, at);
        }
        Matcher heading = Pattern.compile("Ahead of the calls `(\\w+)`.* the interface says: (---- .*)\\.").matcher(document);
        int headings = 0;
        while (heading.find()) {
            headings++;
            int said = source.indexOf("// " + heading.group(2) + "\n");
            int call = source.indexOf("public int " + heading.group(1) + "(");
            Due.that(heading.group(2) + " ahead of " + heading.group(1), said >= 0 && said < call
                    && source.substring(said, call).trim().indexOf('\n') < 0);
        }
        Due.is("headings", headings, 5);
    }

    private static void constants() {
        Due.is("NONE", BlameTown.NONE, -1);
        Due.is("UNKNOWN", BlameTown.UNKNOWN, -1000000001);
        Due.is("OUTSIDE", BlameTown.OUTSIDE, -1000000002);
        Due.is("NOT", BlameTown.NOT, -1000000003);
        Due.is("FULL", BlameTown.FULL, -1000000004);
    }

    private static void methods() {
        Set<String> found = new TreeSet<>();
        Set<String> names = new TreeSet<>();
        for (Method method : BlameTown.class.getDeclaredMethods()) {
            if (Modifier.isPublic(method.getModifiers())) {
                found.add(method.getName() + " " + method.getParameterCount());
                names.add(method.getName());
                Due.that(method + " answers an int", method.getReturnType() == int.class);
                Due.that(method + " is no static one", !Modifier.isStatic(method.getModifiers()));
                for (Class<?> type : method.getParameterTypes()) {
                    Due.that(method + " takes ints", type == int.class);
                }
            }
        }
        Due.that("the public methods are the document's: " + found, found.equals(new TreeSet<>(Arrays.asList(FACE))));
        for (Class<?> each : allClasses()) {
            for (Method method : each.getDeclaredMethods()) {
                Due.that(method + " bears no public name", each == BlameTown.class && Modifier.isPublic(method.getModifiers())
                        || !names.contains(method.getName()));
                Due.that(method + " takes seven at most", method.getParameterCount() <= 7);
            }
        }
    }

    private static void members() {
        int modifiers = BlameTown.class.getModifiers();
        Due.that("public final", Modifier.isPublic(modifiers) && Modifier.isFinal(modifiers));
        Constructor<?>[] made = BlameTown.class.getDeclaredConstructors();
        Due.is("constructors", made.length, 1);
        Due.that("public constructor of nothing", made.length == 1 && Modifier.isPublic(made[0].getModifiers())
                && made[0].getParameterCount() == 0);
        Set<String> open = new TreeSet<>();
        for (Field field : BlameTown.class.getDeclaredFields()) {
            if (!Modifier.isPrivate(field.getModifiers())) {
                open.add(field.getName());
            }
        }
        Due.that("open fields " + open, open.equals(new TreeSet<>(List.of("NONE", "UNKNOWN", "OUTSIDE", "NOT", "FULL"))));
        for (Method method : BlameTown.class.getDeclaredMethods()) {
            Due.that(method + " is public or private",
                    Modifier.isPublic(method.getModifiers()) || Modifier.isPrivate(method.getModifiers()));
        }
    }

    private static void insideClasses() {
        List<Class<?>> all = allClasses();
        Due.that("twelve classes at most", all.size() <= 12);
        for (Class<?> each : all) {
            int own = 0;
            for (Field field : each.getDeclaredFields()) {
                boolean isStatic = Modifier.isStatic(field.getModifiers());
                own += isStatic ? 0 : 1;
                Due.that(field + ": a static field is final", !isStatic || Modifier.isFinal(field.getModifiers()));
            }
            Due.that(each + " has twenty fields at most", own <= 20);
            if (each != BlameTown.class) {
                Due.that(each + " is static", Modifier.isStatic(each.getModifiers()));
                Due.that(each + " is not public", !Modifier.isPublic(each.getModifiers()));
            }
        }
    }

    private static List<Class<?>> allClasses() {
        List<Class<?>> all = new ArrayList<>();
        all.add(BlameTown.class);
        all.addAll(Arrays.asList(BlameTown.class.getDeclaredClasses()));
        return all;
    }

    private static void text(String source) {
        String code = source.replaceAll("(?s)/\\*.*?\\*/", "").replaceAll("//[^\n]*", "");
        String[] banned = {"\\bthrow\\b", "\\bthrows\\b", "\\btry\\b", "\\bcatch\\b", "\\bsynchronized\\b", "\\bassert\\b",
            "\\bpackage\\b", "::", "\\bObject\\b", "\\bNaN\\b", "\\bhashCode\\b", "\\bboolean equals\\b", "\\bString toString\\b",
            "\\bvar\\b", "static\\s*\\{", "Exact\\b", "\\bSystem\\.(?!arraycopy\\b)", "\\bRandom\\b", "\\bThread\\b", "\\bVector\\b",
            "\\b(Hash|Tree|Linked)(Map|Set|List|HashMap)\\b", "\\bimport (?!java\\.util\\.(Arrays|ArrayList|List|Iterator);)"};
        for (String word : banned) {
            Due.that("nothing of the form " + word, !Pattern.compile(word).matcher(code).find());
        }
        Due.that("signs 1 to 127 alone", source.chars().allMatch(c -> c > 0 && c < 128));
        shortMethods(code);
    }

    private static void shortMethods(String code) {
        String[] lines = code.split("\n");
        int from = -1;
        String end = "";
        for (int i = 0; i < lines.length; i++) {
            Matcher head = Pattern.compile("^( {4}| {8})\\S.*\\) \\{$").matcher(lines[i]);
            if (head.matches()) {
                from = i;
                end = head.group(1) + "}";
            } else if (from >= 0 && lines[i].equals(end)) {
                Due.that("the method at line " + from + " is short", i - from <= 60);
                from = -1;
            }
        }
    }
}
