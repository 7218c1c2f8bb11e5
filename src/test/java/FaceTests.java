import java.io.IOException;
import java.lang.reflect.Field;
import java.lang.reflect.Method;
import java.lang.reflect.Modifier;
import java.nio.charset.StandardCharsets;
import java.nio.file.Files;
import java.nio.file.Path;
import java.util.ArrayDeque;
import java.util.ArrayList;
import java.util.Deque;
import java.util.List;
import java.util.TreeSet;
import java.util.regex.Matcher;
import java.util.regex.Pattern;

/** The document's face, and what of LANGUAGE.md can be looked up: rules 1, 2, 4, 5, 6, 11, 12. */
final class FaceTests {
    private static final String FACE = "apply() back() behind(int) by(int,int,int) chain(int,int) count(int) "
        + "cube(int,int) defect(int) fault() feed(int,int,int,int,int) fill(int) fits(int) forget() image() "
        + "letter(int,int) line(int,int) load(int) look(int) net(int) note(int,int,int) order(int,int) pack(int) "
        + "pick(int) program(int,int) put(int,int) restore() row(int,int) shift(int) take() tells(int) "
        + "test(int,int) undo() years(int,int,int)";
    private static final Pattern BANNED = Pattern.compile("->|::|\\bfinally\\b|\\bsynchronized\\b|\\bassert\\b|"
        + "\\bSystem\\.(?!arraycopy)|\\bThread\\b|\\bObject\\b|\\bcatch\\b|\\btry\\b|@Override|\\bMath\\.\\w+Exact|"
        + "\\bdouble\\b|\\bfloat\\b|\\?>|\\bhashCode\\b|\\btoString\\b");

    private FaceTests() {
    }

    static void all() {
        face();
        classesInside();
        source();
        room();
    }

    private static void face() {
        TreeSet<String> face = new TreeSet<>();
        for (Method m : ScanPacker.class.getDeclaredMethods()) {
            if (!Modifier.isPrivate(m.getModifiers())) {
                StringBuilder shown = new StringBuilder(m.getName()).append("(");
                for (Class<?> kind : m.getParameterTypes()) {
                    shown.append(shown.charAt(shown.length() - 1) == '(' ? "" : ",").append(kind);
                }
                face.add(shown.append(")").toString());
                String answer = List.of("forget", "image").contains(m.getName()) ? "void"
                    : m.getName().equals("restore") ? "boolean" : "int";
                Check.that(m.getName() + " answers", m.getReturnType().getName(), answer);
            }
        }
        Check.that("the face", String.join(" ", face), FACE);
        List<String> fields = new ArrayList<>();
        for (Field f : ScanPacker.class.getDeclaredFields()) {
            if (!Modifier.isPrivate(f.getModifiers())) {
                fields.add(f.toString());
            }
        }
        Check.that("its constants", fields.toString(), "[public static final int ScanPacker.NONE]");
        Check.due("NONE", () -> ScanPacker.NONE, -1);
        Check.due("constructors", () -> ScanPacker.class.getDeclaredConstructors().length, 1);
        Check.that("public final", Modifier.toString(ScanPacker.class.getModifiers()), "public final");
    }

    private static void classesInside() {
        Class<?>[] inside = ScanPacker.class.getDeclaredClasses();
        Check.that("at most twelve classes", String.valueOf(inside.length + 1 <= 12), "true");
        List<Class<?>> all = new ArrayList<>(List.of(inside));
        all.add(ScanPacker.class);
        TreeSet<String> publicNames = new TreeSet<>();
        for (Method m : ScanPacker.class.getDeclaredMethods()) {
            if (Modifier.isPublic(m.getModifiers())) {
                publicNames.add(m.getName());
            }
        }
        for (Class<?> each : all) {
            int held = 0;
            for (Field f : each.getDeclaredFields()) {
                boolean isStatic = Modifier.isStatic(f.getModifiers());
                held += isStatic ? 0 : 1;
                Check.that(f + " static only if final", String.valueOf(!isStatic || Modifier.isFinal(f.getModifiers())), "true");
            }
            Check.that(each + " holds at most twenty", String.valueOf(held <= 20), "true");
            for (Method m : each.getDeclaredMethods()) {
                boolean named = each == ScanPacker.class && !Modifier.isPrivate(m.getModifiers());
                Check.that(m + " has a name of its own", String.valueOf(named || !publicNames.contains(m.getName())), "true");
                Check.that(m + " takes at most seven", String.valueOf(m.getParameterCount() <= 7), "true");
            }
        }
        for (Class<?> each : inside) {
            int is = each.getModifiers();
            boolean well = Modifier.isStatic(is) && !Modifier.isPublic(is) && !Modifier.isProtected(is);
            Check.that(each + " is static and not public", String.valueOf(well), "true");
        }
    }

    private static void source() {
        List<String> lines;
        try {
            lines = Files.readAllLines(Path.of("src/main/java/ScanPacker.java"), StandardCharsets.US_ASCII);
        } catch (IOException e) {
            Check.that("the source is read as ASCII", e.toString(), "");
            return;
        }
        Deque<Integer> open = new ArrayDeque<>();
        for (int i = 0; i < lines.size(); i++) {
            String line = lines.get(i);
            String code = line.replaceAll("//.*", "").trim();
            Matcher m = BANNED.matcher(code);
            Check.that("line " + (i + 1), m.find() && !code.startsWith("/") && !code.startsWith("*") ? code : "", "");
            if (code.startsWith("import")) {
                Check.that("import", code, "import java.util.NoSuchElementException;");
            }
            boolean method = line.matches("( {4}| {8})(public|private|[a-z].*\\().*\\{") && !line.contains(" class ")
                && !line.contains(" = {");
            if (method) {
                open.push(i);
            } else if (line.matches("( {4}| {8})\\}") && !open.isEmpty()) {
                int length = i - open.pop() + 1;
                Check.that("method up to line " + (i + 1) + " is short", String.valueOf(length <= 60), "true");
            }
        }
    }

    /** What a run makes: little beyond what its constructors made. */
    private static void room() {
        var threads = (com.sun.management.ThreadMXBean) java.lang.management.ManagementFactory.getThreadMXBean();
        long id = Thread.currentThread().getId();
        busy(new ScanPacker());
        long before = threads.getThreadAllocatedBytes(id);
        ScanPacker x = new ScanPacker();
        long made = threads.getThreadAllocatedBytes(id);
        busy(x);
        long after = threads.getThreadAllocatedBytes(id);
        Check.that("a new object is small: " + (made - before), String.valueOf(made - before < 200000), "true");
        Check.that("500 calls make little: " + (after - made), String.valueOf(after - made < 20000), "true");
    }

    private static void busy(ScanPacker x) {
        // "in a b c;chain a b;g=xor a b c;see g;" in bytes, so that the test itself makes nothing
        for (int i = 0; i < 20; i++) {
            x.feed(0x696E2061, 0x20622063, 0x3B636861, 0x696E2061, 0x20623B67);
            x.feed(0x3D786F72, 0x20612062, 0x20633B73, 0x65652067, 0x3B202020);
            x.net(38);
            x.load(5);
            x.apply();
            x.pick(0);
            x.note(1, 3, 1);
            x.image();
            x.defect(2);
            x.take();
            x.program(0, 0);
            x.order(0, -1);
            x.pack(-1);
            x.fits(-1);
            x.look(0);
            x.back();
            x.tells(3);
            x.years(i, 60, 0);
            x.undo();
            x.restore();
            x.behind(40);
            x.by(7, 1, 3);
            x.row(0, 0);
            x.cube(0, 0);
        }
    }
}
