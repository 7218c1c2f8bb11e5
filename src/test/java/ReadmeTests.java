import java.io.IOException;
import java.lang.reflect.InvocationTargetException;
import java.lang.reflect.Method;
import java.lang.reflect.Modifier;
import java.nio.charset.StandardCharsets;
import java.nio.file.Files;
import java.nio.file.Path;
import java.util.Arrays;
import java.util.List;
import java.util.TreeSet;
import java.util.regex.Matcher;
import java.util.regex.Pattern;

/** What README.md shows is what the class answers; its table of what throws is the face's. */
final class ReadmeTests {
    private static final Pattern CALL = Pattern.compile("x\\.(\\w+)\\((.*)\\);(?:\\s+// ([-\\w]+): .*)?");
    private static final Pattern TEXT = Pattern.compile("(?:String )?text = \"(.*)\";");
    private static final Pattern ROW = Pattern.compile("\\| `(\\w+)` \\|([^|]*)\\|([^|]*)\\|([^|]*)\\|");

    private static ScanPacker x = new ScanPacker();
    private static String text = "";
    private static int shown = 0;

    private ReadmeTests() {
    }

    static void all() {
        List<String> lines;
        try {
            lines = Files.readAllLines(Path.of("README.md"), StandardCharsets.US_ASCII);
        } catch (IOException e) {
            Check.that("README.md is read as ASCII", e.toString(), "");
            return;
        }
        for (String line : lines) {
            show(line);
        }
        Check.due("calls that are shown", () -> shown > 60 ? 1 : 0, 1);
        throwing(lines);
        calls(lines);
    }

    private static void show(String line) {
        Matcher told = TEXT.matcher(line);
        Matcher call = CALL.matcher(line);
        if (told.matches()) {
            text = told.group(1);
        } else if (line.equals("feed(x, text);")) {
            Texts.feed(x, text);
        } else if (line.startsWith("ScanPacker x = ")) {
            x = new ScanPacker();
        } else if (call.matches()) {
            String answer = answerTo(call.group(1), call.group(2));
            boolean answers = call.group(3) != null;
            Check.that("README: " + line, answers ? answer : "null", answers ? call.group(3) : answer);
            shown++;
        } else {
            Check.that("README: what is shown is a call", line.startsWith("x.") ? line : "", "");
        }
    }

    private static String answerTo(String name, String arguments) {
        String[] parts = arguments.isEmpty() ? new String[0] : arguments.split(", ");
        Object[] told = new Object[parts.length];
        for (int i = 0; i < parts.length; i++) {
            told[i] = switch (parts[i]) {
                case "text.length()" -> text.length();
                case "ScanPacker.NONE" -> ScanPacker.NONE;
                default -> Integer.parseInt(parts[i]);
            };
        }
        Class<?>[] kinds = new Class<?>[parts.length];
        Arrays.fill(kinds, int.class);
        try {
            return String.valueOf(ScanPacker.class.getMethod(name, kinds).invoke(x, told));
        } catch (InvocationTargetException e) {
            return e.getCause().getClass().getSimpleName();
        } catch (ReflectiveOperationException e) {
            return e.toString();
        }
    }

    private static TreeSet<String> namesThatThrow(String exception) {
        TreeSet<String> names = new TreeSet<>();
        for (Method m : ScanPacker.class.getDeclaredMethods()) {
            for (Class<?> each : m.getExceptionTypes()) {
                if (Modifier.isPublic(m.getModifiers()) && each.getSimpleName().equals(exception)) {
                    names.add(m.getName());
                }
            }
        }
        return names;
    }

    private static void throwing(List<String> lines) {
        String[] exceptions = {"NoSuchElementException", "IllegalArgumentException"};
        for (int i = 0; i < exceptions.length; i++) {
            TreeSet<String> names = new TreeSet<>();
            for (String line : lines) {
                Matcher row = ROW.matcher(line);
                if (row.matches() && !row.group(2 + i).isBlank()) {
                    names.add(row.group(1));
                }
            }
            Check.that("README: " + exceptions[i], names.toString(), namesThatThrow(exceptions[i]).toString());
        }
    }

    private static void calls(List<String> lines) {
        String all = String.join("\n", lines);
        for (Method m : ScanPacker.class.getDeclaredMethods()) {
            if (Modifier.isPublic(m.getModifiers())) {
                boolean told = all.contains("`" + m.getName() + "`") || all.contains(m.getName() + "(");
                Check.that("README tells " + m.getName(), String.valueOf(told), "true");
            }
        }
    }
}
