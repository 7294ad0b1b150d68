import java.io.IOException;
import java.lang.reflect.Method;
import java.nio.file.Files;
import java.nio.file.Path;
import java.util.Set;
import java.util.TreeSet;
import java.util.regex.Matcher;
import java.util.regex.Pattern;

/** The rows of README.md are asked, one by one, of one object: each must answer what stands behind it. */
public final class ReadmeTest {
    private static final Check CHECK = new Check("ReadmeTest");
    private static final Pattern BYTES = Pattern.compile("for \\(char b : \"([^\"]*)\"\\.toCharArray\\(\\)\\) \\{");
    private static final Pattern TYPED = Pattern.compile("house\\.type\\(([01]), b\\);");
    private static final Pattern ROW = Pattern.compile("house\\.(\\w+\\([-\\d, ]*\\)); +// (-?\\d+): .+");

    private final SmallFirst house = new SmallFirst();
    private final Set<String> used = new TreeSet<>();
    private String bytes = "";

    public static void main(String[] args) throws IOException {
        ReadmeTest test = new ReadmeTest();
        boolean inside = false;
        for (String line : Files.readAllLines(Path.of(System.getProperty("readme", "README.md")))) {
            if (line.startsWith("```")) {
                inside = line.equals("```java");
            } else if (inside) {
                test.ask(line.strip());
            }
        }
        for (Method call : Calls.all()) {
            CHECK.holds("README.md shows " + call.getName(), test.used.contains(call.getName()));
        }
        CHECK.end();
    }

    private void ask(String line) {
        Matcher told = BYTES.matcher(line);
        Matcher typed = TYPED.matcher(line);
        Matcher row = ROW.matcher(line);
        if (told.matches()) {
            bytes = told.group(1);
        } else if (typed.matches()) {
            used.add("type");
            Check.type(house, Integer.parseInt(typed.group(1)), bytes);
        } else if (row.matches()) {
            used.add(row.group(1).substring(0, row.group(1).indexOf('(')));
            CHECK.due("README.md: " + line, Calls.ask(house, row.group(1)), Long.parseLong(row.group(2)));
        } else {
            CHECK.holds("a row that can be asked: " + line,
                line.equals("}") || line.equals("SmallFirst house = new SmallFirst();"));
        }
    }
}
