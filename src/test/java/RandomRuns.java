import java.lang.reflect.InvocationTargetException;
import java.lang.reflect.Method;
import java.util.ArrayList;
import java.util.List;
import java.util.Map;
import java.util.Random;

/** Runs of calls, the same each time, on a ScanPacker and on the Reference. */
final class RandomRuns {
    private static final String[] KINDS = {"not", "and", "or", "xor", "nand", "nor"};
    private static final String[] SCRAPS = {
        "in", "see", "chain", "take", "fill", "not", "and", "or", "xor", "nand", "nor", ";", "=", "a", "b", "c", "g",
        "h", "abcdef", "abcdefg", "0", "2", "3", "12", "@", "A", "\t", "\n", "é", "ins", "", "\0", "{", "`"
    };

    /** What the numbers of a call are: f FAULT, l LINE, p INPUT, r ROW, t ROW by 3, c CHAIN, i small, s any. */
    private static final Map<String, String> NUMBERS = Map.ofEntries(
        Map.entry("count", "C"), Map.entry("line", "li"), Map.entry("letter", "lv"), Map.entry("chain", "ci"),
        Map.entry("test", "fi"), Map.entry("row", "fi"), Map.entry("cube", "fp"), Map.entry("by", "tfl"),
        Map.entry("program", "iv"), Map.entry("order", "ci"), Map.entry("pack", "i"), Map.entry("put", "pv"),
        Map.entry("shift", "i"), Map.entry("load", "r"), Map.entry("defect", "f"), Map.entry("fill", "v"),
        Map.entry("pick", "f"), Map.entry("note", "rlv"), Map.entry("fits", "i"), Map.entry("look", "v"),
        Map.entry("behind", "Y"), Map.entry("tells", "f"), Map.entry("years", "sYv"));

    private static final List<String> SELDOM = List.of("net", "feed", "forget", "image", "restore");

    private final Random random;
    private final ScanPacker x = new ScanPacker();
    private final Reference y = new Reference();
    private final List<String> calls = new ArrayList<>();
    private boolean same = true;

    private RandomRuns(long seed) {
        random = new Random(seed);
    }

    static void all(int runs) {
        for (int i = 0; i < runs; i++) {
            RandomRuns run = new RandomRuns(i);
            run.oneRun();
            Check.that("random run " + i, run.same ? "same" : String.join(" ", run.tail()), "same");
        }
    }

    private List<String> tail() {
        return calls.size() <= 40 ? calls : calls.subList(calls.size() - 40, calls.size());
    }

    private void oneRun() {
        List<Method> face = new ArrayList<>();
        for (Method m : Reference.class.getMethods()) {
            if (m.getDeclaringClass() == Reference.class) {
                face.add(m);
            }
        }
        face.sort((m, n) -> m.getName().compareTo(n.getName()));
        int most = 60 + random.nextInt(340);
        if (random.nextInt(20) != 0) {
            tell(randomText());
        }
        while (calls.size() < most && same) {
            int dice = random.nextInt(100);
            if (dice < 1) {
                tell(random.nextInt(3) == 0 ? randomText() : random.nextInt(2) == 0 ? broken(randomText()) : scraps());
            } else {
                Method m = face.get(random.nextInt(face.size()));
                if (!SELDOM.contains(m.getName()) || random.nextInt(8) == 0) {
                    call(m.getName(), arguments(m.getName(), m.getParameterCount()));
                }
            }
        }
    }

    private int[] arguments(String name, int count) {
        int[] arguments = new int[count];
        boolean wild = random.nextInt(10) == 0 || !NUMBERS.containsKey(name);
        for (int i = 0; i < count; i++) {
            arguments[i] = wild ? wild() : tame(NUMBERS.get(name).charAt(i));
        }
        return arguments;
    }

    private int wild() {
        int dice = random.nextInt(20);
        return dice == 0 ? random.nextInt() : dice < 4 ? random.nextInt(800) - 5 : random.nextInt(52) - 4;
    }

    private int tame(char kind) {
        switch (kind) {
            case 'f': return random.nextInt(9) == 0 ? -1 : below(y.count(5));
            case 'l': return below(y.count(5) / 2);
            case 'p': return below(y.count(0));
            case 'r': return below(1 << y.count(0));
            case 't': return below((int) Math.pow(3, y.count(0)));
            case 'c': return below(y.count(3));
            case 'C': return below(20);
            case 'i': return random.nextInt(1 + random.nextInt(9)) - (random.nextInt(5) == 0 ? 2 : 0);
            case 'v': return random.nextInt(8) == 0 ? random.nextInt(5) - 1 : random.nextInt(3);
            case 'Y': return random.nextInt(62);
            default: return random.nextInt();
        }
    }

    /** Rarely just not. */
    private int below(int bound) {
        return random.nextInt(25) == 0 ? bound : random.nextInt(Math.max(1, bound));
    }

    private void call(String name, int... arguments) {
        Class<?>[] kinds = new Class<?>[arguments.length];
        Object[] values = new Object[arguments.length];
        StringBuilder shown = new StringBuilder(name).append("(");
        for (int i = 0; i < kinds.length; i++) {
            kinds[i] = int.class;
            values[i] = arguments[i];
            shown.append(i == 0 ? "" : ", ").append(arguments[i]);
        }
        String got = answer(x, name, kinds, values);
        String want = answer(y, name, kinds, values);
        calls.add(shown.append(")=").append(got).toString());
        if (!got.equals(want)) {
            calls.add("where due is " + want);
            same = false;
        }
    }

    private static String answer(Object object, String name, Class<?>[] kinds, Object[] values) {
        try {
            return String.valueOf(object.getClass().getMethod(name, kinds).invoke(object, values));
        } catch (InvocationTargetException e) {
            return "throws." + e.getCause().getClass().getSimpleName();
        } catch (ReflectiveOperationException e) {
            return e.toString();
        }
    }

    private void tell(String text) {
        StringBuilder padded = new StringBuilder(text);
        while (padded.length() % 20 != 0 || padded.length() == 0) {
            padded.append(random.nextInt(9) == 0 ? 'z' : ' ');
        }
        int n = (int) (Long.parseLong(answer(y, "count", new Class<?>[] {int.class}, new Object[] {16}))) + text.length();
        for (int i = 0; i + 20 <= padded.length(); i += 20) {
            int[] five = new int[5];
            for (int k = 0; k < 20; k++) {
                five[k / 4] = five[k / 4] << 8 | padded.charAt(i + k) & 255;
            }
            call("feed", five);
        }
        call("net", n);
        call("fault");
        calls.add("[" + text + "]");
    }

    private String scraps() {
        StringBuilder text = new StringBuilder(random.nextInt(2) == 0 ? "in a b c;" : "");
        int n = random.nextInt(12);
        for (int i = 0; i < n; i++) {
            text.append(SCRAPS[random.nextInt(SCRAPS.length)]).append(random.nextInt(5) == 0 ? "" : " ");
        }
        return text.toString();
    }

    private String broken(String text) {
        StringBuilder broken = new StringBuilder(text);
        int at = random.nextInt(broken.length() + 1);
        String scrap = SCRAPS[random.nextInt(SCRAPS.length)];
        switch (random.nextInt(6)) {
            case 0: broken.insert(at, scrap); break;
            case 1: broken.insert(at, " " + scrap + " "); break;
            case 2: broken.setLength(at); break;
            case 3: broken.delete(at, Math.min(broken.length(), at + 1 + random.nextInt(4))); break;
            case 4: again(broken, ";"); break;
            default: again(broken, " "); break;
        }
        return broken.length() > 900 ? broken.substring(0, 900) : broken.toString();
    }

    /** A clause, or a word, once more behind it. */
    private void again(StringBuilder text, String mark) {
        int from = text.indexOf(mark, random.nextInt(text.length() + 1));
        int to = from < 0 ? -1 : text.indexOf(mark, from + 1);
        if (to > 0) {
            text.insert(to, text.substring(from, to));
        }
    }

    private String randomText() {
        List<String> names = new ArrayList<>();
        StringBuilder text = new StringBuilder();
        int inputs = 1 + random.nextInt(random.nextInt(9) == 0 ? 7 : 6);
        int gates = random.nextInt(4) == 0 ? random.nextInt(18) : random.nextInt(8);
        text.append("in");
        for (int i = 0; i < inputs; i++) {
            names.add(newName(names));
            text.append(' ').append(names.get(i));
        }
        text.append(random.nextInt(4) == 0 ? " ;\n" : ";");
        List<String> free = new ArrayList<>(names);
        List<String> cells = new ArrayList<>();
        int chains = random.nextInt(random.nextInt(9) == 0 ? 5 : 4);
        for (int c = 0; c < chains && !free.isEmpty(); c++) {
            text.append("chain");
            int length = 1 + random.nextInt(random.nextInt(3) == 0 ? free.size() : Math.min(2, free.size()));
            for (int k = 0; k < length; k++) {
                String cell = free.remove(random.nextInt(free.size()));
                cells.add(cell);
                text.append(' ').append(cell);
            }
            text.append(';');
        }
        for (int g = 0; g < gates; g++) {
            String name = newName(names);
            String kind = KINDS[random.nextInt(6)];
            text.append(name).append('=').append(kind);
            int of = kind.equals("not") ? 1 : 2 + random.nextInt(2);
            for (int k = 0; k < of; k++) {
                int last = names.size();
                text.append(' ').append(names.get(random.nextInt(3) == 0 ? Math.max(0, last - 1 - random.nextInt(3)) : random.nextInt(last)));
            }
            text.append(';');
            names.add(name);
        }
        see(names, text);
        for (String cell : cells) {
            if (random.nextInt(3) != 0) {
                text.append("take ").append(cell).append(' ').append(names.get(random.nextInt(names.size()))).append(';');
            }
        }
        if (random.nextInt(2) == 0) {
            text.append("fill ").append(random.nextInt(3)).append(';');
        }
        return text.length() > 900 ? text.substring(0, 900) : text.toString();
    }

    private void see(List<String> names, StringBuilder text) {
        if (random.nextInt(6) == 0) {
            return;
        }
        text.append("see ").append(names.get(names.size() - 1));
        for (int i = 0; i < names.size() - 1; i++) {
            if (random.nextInt(6) == 0) {
                text.append(' ').append(names.get(i));
            }
        }
        text.append(';');
    }

    private String newName(List<String> names) {
        while (true) {
            int length = random.nextInt(5) == 0 ? 1 + random.nextInt(6) : 1 + random.nextInt(2);
            StringBuilder name = new StringBuilder();
            for (int i = 0; i < length; i++) {
                name.append((char) ('a' + random.nextInt(26)));
            }
            String made = name.toString();
            boolean quoted = List.of("in", "or", "not", "and", "xor", "nor", "see", "nand", "take", "fill", "chain").contains(made);
            if (!quoted && !names.contains(made)) {
                return made;
            }
        }
    }
}
