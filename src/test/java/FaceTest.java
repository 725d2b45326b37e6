import java.lang.reflect.Field;
import java.lang.reflect.Method;
import java.lang.reflect.Modifier;
import java.nio.file.Files;
import java.nio.file.Path;
import java.util.Set;
import java.util.TreeSet;

/** The public face, and those rules of LANGUAGE.md that can be seen in the file's words. */
final class FaceTest {
    private static final Set<String> METHODS = Set.of(
        "write/1", "erase/0", "fault/0", "coat/0", "family/2", "as/2",
        "favour/3", "day/1", "undo/0", "keep/1", "back/1",
        "warm/1", "carried/1", "fewest/2", "swings/1", "lot/2", "win/2", "block/1", "wrong/1", "turns/2",
        "seen/3", "forget/0", "quotas/0", "frosts/4", "count/1");

    private FaceTest() {
    }

    static void run() throws Exception {
        Check.part("face");
        Check.due("NONE", ParishCoat.NONE, -1);
        Check.due("UNKNOWN", ParishCoat.UNKNOWN, -2);
        Check.due("OUTSIDE", ParishCoat.OUTSIDE, -3);
        Check.due("NOT", ParishCoat.NOT, -4);
        Check.due("FULL", ParishCoat.FULL, -5);
        Check.due("public final", ParishCoat.class.getModifiers(), Modifier.PUBLIC | Modifier.FINAL);
        Check.due("constructors", ParishCoat.class.getConstructors().length, 1);
        methods();
        fields();
        words();
    }

    private static void methods() {
        Set<String> open = new TreeSet<>();
        for (Method m : ParishCoat.class.getDeclaredMethods()) {
            if (!Modifier.isPrivate(m.getModifiers())) {
                open.add(m.getName() + "/" + m.getParameterCount());
                Check.due(m.getName() + " answers an int", m.getReturnType() == int.class ? 1 : 0, 1);
                Check.due(m.getName() + " is public", m.getModifiers(), Modifier.PUBLIC);
            } else {
                boolean clash = METHODS.stream().anyMatch(n -> n.startsWith(m.getName() + "/"));
                Check.due("private " + m.getName() + " bears a public name", clash ? 1 : 0, 0);
            }
        }
        Check.due("methods are those of the face: " + open, open.equals(METHODS) ? 1 : 0, 1);
    }

    private static void fields() {
        Set<String> open = new TreeSet<>();
        for (Field f : ParishCoat.class.getDeclaredFields()) {
            if (!Modifier.isPrivate(f.getModifiers())) {
                open.add(f.getName());
            }
        }
        Set<String> face = Set.of("NONE", "UNKNOWN", "OUTSIDE", "NOT", "FULL");
        Check.due("fields are those of the face: " + open, open.equals(face) ? 1 : 0, 1);
    }

    private static void words() throws Exception {
        String source = Files.readString(Path.of("src/main/java/ParishCoat.java"));
        String code = source.replaceAll("(?s)/\\*.*?\\*/", " ").replaceAll("//[^\n]*", " ");
        for (String word : new String[] {"throw", "throws", "try", "catch", "synchronized", "assert", "package",
            "Exact", "Random", "System\\.(?!arraycopy)\\w+", "->", "::"}) {
            boolean there = java.util.regex.Pattern.compile("(?<!\\w)" + word + "(?!\\w)").matcher(code).find();
            Check.due("the program has " + word, there ? 1 : 0, 0);
        }
        Check.due("the program's letters are plain", source.chars().allMatch(c -> c < 128) ? 1 : 0, 1);
    }
}
