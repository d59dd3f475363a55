import java.io.IOException;
import java.lang.reflect.InvocationTargetException;
import java.lang.reflect.Method;
import java.nio.file.Files;
import java.nio.file.Path;
import java.util.Arrays;
import java.util.Set;
import java.util.TreeSet;
import java.util.regex.Matcher;
import java.util.regex.Pattern;

/** README.md tells the truth: its calls answer what stands behind them, and it names every method. */
public final class ReadmeTest extends Checks {
    private static final Pattern CALL = Pattern.compile("x\\.(\\w+)\\(([^)]*)\\); *// (-?\\d+|\\w+Exception): .*");

    public static void main(String[] args) throws Exception {
        String text = readme();
        calls(text);
        names(text);
        end("ReadmeTest");
    }

    private static String readme() throws IOException {
        return Files.readString(Path.of(System.getProperty("project.root", "."), "README.md"));
    }

    private static void calls(String text) throws Exception {
        SlideZips x = new SlideZips();
        int many = 0;
        for (String line : text.split("\n")) {
            Matcher m = CALL.matcher(line);
            if (m.matches()) {
                many++;
                is(line, answerOf(x, m.group(1), m.group(2)), m.group(3));
            } else {
                is("is a call without an answer: " + line, line.startsWith("x."), false);
            }
        }
        is("calls were found", many > 10, true);
    }

    private static String answerOf(SlideZips x, String name, String written) throws Exception {
        Object[] numbers = written.isEmpty() ? new Object[0]
            : Arrays.stream(written.split(", ")).map(Integer::decode).toArray();
        Class<?>[] types = new Class<?>[numbers.length];
        Arrays.fill(types, int.class);
        Method method = SlideZips.class.getMethod(name, types);
        try {
            return String.valueOf(method.invoke(x, numbers));
        } catch (InvocationTargetException e) {
            return e.getCause().getClass().getSimpleName();
        }
    }

    /** Its table has each method with its promise's number, as the document's headings do. */
    private static void names(String text) throws IOException {
        Set<String> due = new TreeSet<>();
        Path document = Path.of(System.getProperty("project.root", "."), "../shared/DOC.md");
        Matcher heading = Pattern.compile("(?m)^## Promise (\\d+): (\\w+)$").matcher(Files.readString(document));
        while (heading.find()) {
            due.add(heading.group(2) + " " + heading.group(1));
        }
        Set<String> found = new TreeSet<>();
        Matcher row = Pattern.compile("`(\\w+)` (\\d+)").matcher(text);
        while (row.find()) {
            found.add(row.group(1) + " " + row.group(2));
        }
        is("methods in the table", found.toString(), due.toString());
    }
}
