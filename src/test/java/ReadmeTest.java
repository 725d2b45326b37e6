import java.lang.reflect.Method;
import java.nio.file.Files;
import java.nio.file.Path;
import java.util.Set;
import java.util.TreeSet;
import java.util.regex.Matcher;
import java.util.regex.Pattern;

/** The example of README.md: each of its calls answers what stands behind it. */
final class ReadmeTest {
    private static final Pattern TELL = Pattern.compile("tell\\(coat, \"([^\"]*)\"\\);");
    private static final Pattern CALL = Pattern.compile("coat\\.(\\w+)\\(([^)]*)\\);\\s*// (-?\\d+|[A-Z]+)\\b.*");
    private static final Pattern CODE = Pattern.compile("coat\\.\\w+\\(.*|tell\\(coat.*");

    private ReadmeTest() {
    }

    static void run() throws Exception {
        Check.part("README.md");
        String example = Files.readString(Path.of("README.md")).split("ParishCoat coat = new ParishCoat\\(\\);")[1];
        ParishCoat coat = new ParishCoat();
        Set<String> asked = new TreeSet<>();
        for (String line : example.split("```")[0].split("\n")) {
            Matcher tell = TELL.matcher(line);
            Matcher call = CALL.matcher(line);
            if (tell.matches()) {
                Check.write(coat, tell.group(1));
            } else if (call.matches()) {
                asked.add(call.group(1));
                Check.due(line, answer(coat, call.group(1), call.group(2)), number(call.group(3)));
            } else {
                Check.due("a line without its answer: " + line, CODE.matcher(line).matches() ? 1 : 0, 0);
            }
        }
        Check.due("the example asks a good part of the calls", asked.size() >= 20 ? 1 : 0, 1);
    }

    private static int answer(ParishCoat coat, String name, String arguments) throws Exception {
        String[] parts = arguments.isEmpty() ? new String[0] : arguments.split(", ");
        Object[] numbers = new Object[parts.length];
        Class<?>[] types = new Class<?>[parts.length];
        for (int i = 0; i < parts.length; i++) {
            numbers[i] = number(parts[i]);
            types[i] = int.class;
        }
        Method method = ParishCoat.class.getMethod(name, types);
        return (int) method.invoke(coat, numbers);
    }

    private static int number(String word) throws Exception {
        boolean constant = Character.isUpperCase(word.charAt(0));
        return constant ? ParishCoat.class.getField(word).getInt(null) : Integer.parseInt(word);
    }
}
