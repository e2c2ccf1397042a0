import java.io.File;
import java.io.IOException;
import java.lang.reflect.InvocationTargetException;
import java.lang.reflect.Method;
import java.lang.reflect.Modifier;
import java.nio.file.Files;
import java.nio.file.Path;
import java.util.ArrayList;
import java.util.List;
import java.util.regex.Matcher;
import java.util.regex.Pattern;

/** What README.md says is so: its example is made call by call, and it leaves nothing out. */
public final class ReadmeTest {
    private static final String BEGIN = "```java\n";
    private static final String END = "```\n";
    private static final Pattern MADE =
            Pattern.compile("ExtentTree tree = new ExtentTree\\((-?\\d+)\\); +// .+");
    // The answer stands first behind the slashes; a colon parts it from what is said of it.
    private static final Pattern CALL =
            Pattern.compile("tree\\.(\\w+)\\(([^)]*)\\); +// ([^:]+)(:.*)?");

    private final Checks checks = new Checks();

    public static void main(String[] args) throws IOException {
        String text = Files.readString(Path.of("README.md"));
        ReadmeTest test = new ReadmeTest();
        test.example(text);
        test.callsAreNamed(text);
        test.testsAreNamed(text);
        test.checks.end("ReadmeTest");
    }

    private void example(String text) {
        int begin = text.indexOf(BEGIN);
        int end = text.indexOf(END, begin + BEGIN.length());
        checks.is("README.md has an example", begin >= 0 && end > begin, true);
        if (begin < 0 || end <= begin) {
            return;
        }
        String[] lines = text.substring(begin + BEGIN.length(), end).split("\n");
        Matcher made = MADE.matcher(lines[0]);
        checks.is("the example makes an object", made.matches(), true);
        if (!made.matches()) {
            return;
        }
        ExtentTree tree = new ExtentTree(Integer.parseInt(made.group(1)));
        List<String> used = new ArrayList<>();
        for (int i = 1; i < lines.length; i++) {
            used.add(call(tree, lines[i]));
        }
        for (Method method : face()) {
            checks.is("the example has " + method.getName(), used.contains(method.getName()),
                    true);
        }
    }

    /** Makes the call of a line: the name of the method. */
    private String call(ExtentTree tree, String line) {
        Matcher call = CALL.matcher(line);
        checks.is(line + " is a call with an answer", call.matches(), true);
        if (!call.matches()) {
            return "";
        }
        for (Method method : face()) {
            if (method.getName().equals(call.group(1))) {
                checks.is(line, answer(tree, method, call.group(2)), call.group(3).trim());
            }
        }
        return call.group(1);
    }

    private static String answer(ExtentTree tree, Method method, String arguments) {
        String[] given = arguments.isEmpty() ? new String[0] : arguments.split(", ");
        Object[] values = new Object[given.length];
        for (int i = 0; i < given.length; i++) {
            boolean truth = given[i].equals("true") || given[i].equals("false");
            values[i] = truth ? (Object) Boolean.valueOf(given[i]) : Integer.valueOf(given[i]);
        }
        try {
            return String.valueOf(method.invoke(tree, values));
        } catch (InvocationTargetException e) {
            return "throws " + e.getCause().getClass().getSimpleName();
        } catch (IllegalAccessException | IllegalArgumentException e) {
            return "no such call";
        }
    }

    private static List<Method> face() {
        List<Method> face = new ArrayList<>();
        for (Method method : ExtentTree.class.getDeclaredMethods()) {
            if (Modifier.isPublic(method.getModifiers())) {
                face.add(method);
            }
        }
        return face;
    }

    private void callsAreNamed(String text) {
        checks.is("the constructor's row", text.contains("| `new ExtentTree(m)` |"), true);
        for (Method method : face()) {
            Matcher row = Pattern.compile("\\| `" + method.getName() + "\\(([^)]*)\\)` \\|")
                    .matcher(text);
            boolean found = row.find();
            checks.is("the row of " + method.getName(), found, true);
            if (found) {
                String named = row.group(1);
                checks.is("its arguments", named.isEmpty() ? 0 : named.split(", ").length,
                        method.getParameterCount());
            }
        }
    }

    private void testsAreNamed(String text) {
        File[] files = new File("src/test/java").listFiles();
        checks.is("there are tests", files != null && files.length > 0, true);
        for (File file : files == null ? new File[0] : files) {
            String name = file.getName().replace(".java", "");
            checks.is("README.md tells of " + name, text.contains("`" + name + "`"), true);
        }
    }
}
