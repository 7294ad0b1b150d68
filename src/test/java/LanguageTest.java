import java.lang.management.ManagementFactory;
import java.lang.reflect.Field;
import java.lang.reflect.Member;
import java.lang.reflect.Method;
import java.lang.reflect.Modifier;
import java.nio.file.Files;
import java.nio.file.Path;
import java.util.Arrays;
import java.util.List;
import java.util.Set;
import java.util.TreeSet;
import java.util.regex.Matcher;
import java.util.regex.Pattern;
import java.util.stream.Collectors;

/** The face, the rules of LANGUAGE.md that can be seen from outside, and the room that a run takes. */
public final class LanguageTest {
    private static final Check CHECK = new Check("LanguageTest");
    private static final String FACE = "type(2) wipe(1) undo(1) fault(1) rule(2) dust(2) first(1) comes(1) lays(1)"
        + " lay(3) back(0) week(2) judged(0) two(0) second(1) touch(4) keepOff(3) bars(1) play(3) steady(1)"
        + " round(2) seen(2) forget(0) read(1) stands(2) watch(1) moved(1) cat(3) let(2) lot(3) sheet(3)"
        + " lose(1) put(4) get(3) copy(5) write(2) count(1) digest(0)";

    public static void main(String[] args) throws Exception {
        face();
        classesInside();
        String code = withoutComments(Files.readString(Path.of(
            System.getProperty("source", "src/main/java/SmallFirst.java"))));
        words(code);
        library(code);
        lengths(code);
        room();
        CHECK.end();
    }

    private static void face() {
        Set<String> calls = new TreeSet<>();
        for (Method m : SmallFirst.class.getDeclaredMethods()) {
            if (Modifier.isPublic(m.getModifiers())) {
                calls.add(m.getName() + "(" + m.getParameterCount() + ")");
                boolean isLong = m.getName().equals("cat") || m.getName().equals("digest");
                CHECK.holds(m.getName() + " answers what it should",
                    m.getReturnType() == (isLong ? long.class : int.class));
            } else {
                CHECK.holds(m.getName() + " is private", Modifier.isPrivate(m.getModifiers()));
            }
        }
        CHECK.holds("the face " + calls, calls.equals(new TreeSet<>(List.of(FACE.split(" ")))));
        Set<String> constants = Arrays.stream(SmallFirst.class.getDeclaredFields())
            .filter(f -> !Modifier.isPrivate(f.getModifiers())).map(Field::getName).collect(Collectors.toSet());
        CHECK.holds("the constants " + constants, constants.equals(Set.of("NONE", "BAD", "NOT", "FULL")));
        CHECK.due("constructors", SmallFirst.class.getDeclaredConstructors().length, 1);
        CHECK.holds("the class is public and final", (SmallFirst.class.getModifiers() & 17) == 17);
    }

    private static void classesInside() {
        Class<?>[] inside = SmallFirst.class.getDeclaredClasses();
        CHECK.holds("some twelve classes", inside.length < 13);
        Set<String> open = Arrays.stream(SmallFirst.class.getDeclaredMethods())
            .filter(m -> Modifier.isPublic(m.getModifiers())).map(Method::getName).collect(Collectors.toSet());
        for (Class<?> c : inside) {
            CHECK.holds(c + " is static", Modifier.isStatic(c.getModifiers()));
            CHECK.holds(c + " is not open", (c.getModifiers() & (Modifier.PUBLIC | Modifier.PROTECTED)) == 0);
            for (Method m : c.getDeclaredMethods()) {
                CHECK.holds(m + " bears another name than a call if it is private",
                    !Modifier.isPrivate(m.getModifiers()) || !open.contains(m.getName()));
                CHECK.holds(m + " has seven parameters at most", m.getParameterCount() <= 7);
            }
            for (Field f : c.getDeclaredFields()) {
                staticIsFinal(f);
            }
            long fields = Arrays.stream(c.getDeclaredFields())
                .filter(f -> !Modifier.isStatic(f.getModifiers())).count();
            CHECK.holds(c + " has twenty fields at most", fields <= 20);
        }
        for (Field f : SmallFirst.class.getDeclaredFields()) {
            staticIsFinal(f);
        }
    }

    private static void staticIsFinal(Member f) {
        CHECK.holds(f + " is final if it is static",
            !Modifier.isStatic(f.getModifiers()) || Modifier.isFinal(f.getModifiers()));
    }

    private static String withoutComments(String source) {
        return source.replaceAll("(?s)/\\*.*?\\*/", "").replaceAll("//[^\n]*", "");
    }

    // Only what the rules forbid, not what this class happens to do without.
    private static void words(String code) {
        for (String word : List.of("throw", "throws", "try", "catch", "finally", "synchronized", "assert", "package",
            "protected", "native", "volatile", "transient")) {
            CHECK.holds("no " + word, !Pattern.compile("\\b" + word + "\\b").matcher(code).find());
        }
        CHECK.holds("no method reference", !code.contains("::"));
        CHECK.holds("no lambda", !Pattern.compile("(?m)^(?!\\s*(case|default)\\b).*->").matcher(code).find());
        CHECK.holds("no static block", !Pattern.compile("\\bstatic\\s*\\{").matcher(code).find());
        Matcher imports = Pattern.compile("\\bimport\\s+([^;]+);").matcher(code);
        while (imports.find()) {
            CHECK.holds(imports.group(1) + " is in the library that is listed",
                Set.of("java.util.ArrayList", "java.util.List", "java.util.Arrays", "java.util.Iterator")
                    .contains(imports.group(1)));
        }
    }

    private static void library(String code) {
        Matcher used = Pattern.compile("\\b(Math|Integer|Long|System|Arrays|List)\\.(\\w+)").matcher(code);
        while (used.find()) {
            String name = used.group(2);
            boolean allowed = switch (used.group(1)) {
                case "System" -> name.equals("arraycopy");
                case "Arrays" -> Set.of("copyOf", "copyOfRange", "fill").contains(name);
                case "List" -> name.equals("of");
                default -> !name.endsWith("Exact") && !name.equals("random");
            };
            CHECK.holds(used.group() + " is in the library that is listed", allowed);
        }
        CHECK.holds("no other library",
            !Pattern.compile("\\b(?:Thread|Random|Runtime|Object|Scanner|java\\.(?!util))\\b").matcher(code).find());
    }

    // A method begins with a brace at the end of a line behind ')' and ends with the brace below its own start.
    private static void lengths(String code) {
        String[] lines = code.split("\n", -1);
        for (int i = 0; i < lines.length; i++) {
            if (lines[i].matches("( {4}| {8})\\w[^;=]*\\) \\{") && !lines[i].matches(" *(if|for|switch|else)\\b.*")) {
                String end = lines[i].replaceAll("\\S.*", "") + "}";
                int n = i;
                while (n < lines.length && !lines[n].equals(end)) {
                    n++;
                }
                CHECK.holds("a method of sixty lines at most: " + lines[i].strip(), n - i <= 60);
            }
        }
    }

    private static void room() {
        com.sun.management.ThreadMXBean threads =
            (com.sun.management.ThreadMXBean) ManagementFactory.getThreadMXBean();
        fullRun();
        long before = threads.getCurrentThreadAllocatedBytes();
        fullRun();
        long bytes = threads.getCurrentThreadAllocatedBytes() - before;
        CHECK.holds("the room of a run of 512 calls: " + bytes + " bytes", bytes < 1_000_000);
    }

    private static void fullRun() {
        SmallFirst x = new SmallFirst();
        x.first(255);
        for (int i = 0; i < 100; i++) {
            x.type(0, 'a');
            x.sheet(i % 4, i % 3, 60);
            x.write(0, i % 4);
            x.digest();
            x.undo(0);
        }
    }
}
