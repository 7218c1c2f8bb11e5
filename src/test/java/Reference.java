import java.util.ArrayDeque;
import java.util.ArrayList;
import java.util.Arrays;
import java.util.Deque;
import java.util.HashSet;
import java.util.List;
import java.util.NoSuchElementException;
import java.util.Set;
import java.util.regex.Matcher;
import java.util.regex.Pattern;

/** The document's words once more, slowly and one ROW at a time: random runs are compared with it. */
public final class Reference {
    private static final int NONE = -1;
    private static final List<String> KINDS = List.of("not", "and", "or", "xor", "nand", "nor");
    private static final List<String> HEADS = List.of("in", "see", "chain", "take", "fill");
    private static final Pattern TOKENS = Pattern.compile("[a-z]+|[0-9]+|[ \n]+|.", Pattern.DOTALL);

    private record Gate(int kind, List<Integer> from) { }

    private record Note(int row, int line, int v) { }

    private static final class Net {
        final List<String> names = new ArrayList<>();
        int inputs;
        final List<Gate> gates = new ArrayList<>();
        final Set<Integer> told = new HashSet<>();
        final List<List<Integer>> chains = new ArrayList<>();
        final int[] takes = new int[6];
        int fill = NONE;
        List<List<Integer>> tests;
        List<int[]> cubes;

        Net() {
            Arrays.fill(takes, NONE);
        }

        boolean seen(int line) {
            for (int i = 0; i < inputs; i++) {
                if (takes[i] == line) {
                    return true;
                }
            }
            return told.contains(line);
        }

        int chainOf(int input) {
            for (int c = 0; c < chains.size(); c++) {
                if (chains.get(c).contains(input)) {
                    return c;
                }
            }
            return NONE;
        }
    }

    private record State(int[] has, int cycles, Set<Integer> done, int defect, int fill, List<Integer> picked) {
        State copy() {
            return new State(has.clone(), cycles, new HashSet<>(done), defect, fill, new ArrayList<>(picked));
        }

        State with(int cycles, int defect, int fill) {
            return new State(has, cycles, done, defect, fill, picked);
        }
    }

    private record Image(State state, List<State> acts, List<Note> noted, int[] status) { }

    private final StringBuilder tape = new StringBuilder();
    private Net net = new Net();
    private int place = NONE;
    private State state;
    private Deque<State> acts = new ArrayDeque<>();
    private List<Note> noted = new ArrayList<>();
    private int[] status = new int[3];
    private Image image;

    public Reference() {
        begin(new Net());
    }

    private void begin(Net read) {
        net = read;
        int faults = 2 * net.names.size();
        net.tests = new ArrayList<>();
        net.cubes = new ArrayList<>();
        List<int[]> all = allRows();
        all.sort((x, y) -> set(x) != set(y) ? set(x) - set(y) : Arrays.compare(x, y));
        for (int f = 0; f < faults; f++) {
            List<Integer> tests = new ArrayList<>();
            for (int r = 0; r < 1 << net.inputs; r++) {
                if (caught(bits(r), f)) {
                    tests.add(r);
                }
            }
            net.tests.add(tests);
            int[] cube = null;
            for (int i = 0; i < all.size() && cube == null; i++) {
                cube = caught(all.get(i), f) ? all.get(i) : null;
            }
            net.cubes.add(cube);
        }
        state = new State(new int[net.inputs], 0, new HashSet<>(), NONE, Math.max(net.fill, 0), new ArrayList<>());
        acts.clear();
        noted.clear();
        image = null;
    }

    private List<int[]> allRows() {
        List<int[]> rows = new ArrayList<>();
        rows.add(new int[net.inputs]);
        for (int i = 0; i < net.inputs; i++) {
            List<int[]> more = new ArrayList<>();
            for (int[] row : rows) {
                for (int v = 0; v < 3; v++) {
                    int[] next = row.clone();
                    next[i] = v;
                    more.add(next);
                }
            }
            rows = more;
        }
        return rows;
    }

    private static int set(int[] row) {
        return (int) Arrays.stream(row).filter(v -> v != 2).count();
    }

    private int[] bits(int number) {
        int[] row = new int[net.inputs];
        for (int i = 0; i < row.length; i++) {
            row[i] = number >> i & 1;
        }
        return row;
    }

    private static int number(int[] row) {
        int number = 0;
        for (int i = 0; i < row.length; i++) {
            number += row[i] << i;
        }
        return number;
    }

    private int[] values(int[] row, int fault) {
        int[] is = new int[net.names.size()];
        for (int line = 0; line < is.length; line++) {
            if (line < net.inputs) {
                is[line] = row[line];
            } else {
                Gate gate = net.gates.get(line - net.inputs);
                is[line] = gate(gate.kind, gate.from.stream().map(l -> is[l]).toList());
            }
            if (fault >= 0 && fault / 2 == line) {
                is[line] = fault % 2;
            }
        }
        return is;
    }

    private static int other(int v) {
        return v == 2 ? 2 : 1 - v;
    }

    private static int gate(int kind, List<Integer> of) {
        return switch (kind) {
            case 0 -> other(of.get(0));
            case 1 -> of.contains(0) ? 0 : of.contains(2) ? 2 : 1;
            case 2 -> of.contains(1) ? 1 : of.contains(2) ? 2 : 0;
            case 3 -> of.contains(2) ? 2 : of.stream().mapToInt(v -> v).sum() % 2;
            case 4 -> other(gate(1, of));
            default -> other(gate(2, of));
        };
    }

    private boolean caught(int[] row, int fault) {
        int[] sound = values(row, NONE);
        int[] stuck = values(row, fault);
        for (int line = 0; line < sound.length; line++) {
            if (net.seen(line) && sound[line] != 2 && stuck[line] != 2 && sound[line] != stuck[line]) {
                return true;
            }
        }
        return false;
    }

    private boolean lost(int fault) {
        return net.tests.get(fault).isEmpty();
    }

    public int feed(int a, int b, int c, int d, int e) {
        if (tape.length() > 880) {
            return NONE;
        }
        for (int n : new int[] {a, b, c, d, e}) {
            for (int k = 3; k >= 0; k--) {
                tape.append((char) (n >> 8 * k & 255));
            }
        }
        return tape.length();
    }

    public int net(int n) {
        if (n < 0 || n > tape.length()) {
            throw new IllegalArgumentException();
        }
        String text = tape.substring(0, n);
        tape.setLength(0);
        Reading reading = new Reading();
        int fault = reading.read(text);
        if (fault != 0) {
            status[0]++;
            place = reading.place;
            return fault;
        }
        place = NONE;
        begin(reading.net);
        return 0;
    }

    /** Goes along the TOKENS; for each, what may stand there is told by the state it is in. */
    private static final class Reading {
        final Net net = new Net();
        int place;
        private String state = "clause";
        private String name;
        private int kind;
        private List<Integer> from;
        private int input;
        private List<Integer> chain;

        int read(String text) {
            Matcher m = TOKENS.matcher(text);
            while (m.find()) {
                String token = m.group();
                if (token.isBlank() && token.matches("[ \n]+")) {
                    continue;
                }
                place = m.start();
                int fault = step(token);
                if (fault != 0) {
                    return fault;
                }
            }
            place = text.length();
            return state.equals("clause") ? 0 : 1;
        }

        private static boolean isWord(String t) {
            return t.matches("[a-z]+") && !KINDS.contains(t) && !HEADS.contains(t);
        }

        private static int word(String t) {
            return !isWord(t) ? 1 : t.length() > 6 ? 2 : 0;
        }

        private int first(int... faults) {
            for (int f : faults) {
                if (f != 0) {
                    return f;
                }
            }
            return 0;
        }

        private int step(String t) {
            boolean end = t.equals(";");
            switch (state) {
                case "clause": return clause(t);
                case "in more":
                    if (end) {
                        return go("clause");
                    }
                case "in": return inName(t);
                case "=": return t.equals("=") ? go("kind") : 1;
                case "kind":
                    kind = KINDS.indexOf(t);
                    from = new ArrayList<>();
                    return kind < 0 ? 1 : go("of");
                case "of": return of(t, end);
                case "see more":
                    if (end) {
                        return go("clause");
                    }
                case "see": return see(t);
                case "chain more":
                    if (end) {
                        return go("clause");
                    }
                case "chain": return chain(t);
                case "take": return take(t);
                case "take of":
                    int wrong = first(word(t), net.names.contains(t) ? 0 : 3);
                    net.takes[input] = net.names.indexOf(t);
                    return first(wrong, go("end"));
                case "fill":
                    if (!t.matches("[0-9]+")) {
                        return 1;
                    }
                    if (t.length() > 1 || t.charAt(0) > '2') {
                        return 2;
                    }
                    net.fill = t.charAt(0) - '0';
                    return go("end");
                default: return end ? go("clause") : 1;
            }
        }

        private int go(String next) {
            state = next;
            return 0;
        }

        private int clause(String t) {
            switch (t) {
                case "in": return net.gates.isEmpty() ? go("in") : 1;
                case "see": return go("see");
                case "take": return go("take");
                case "fill": return net.fill != NONE ? 5 : go("fill");
                case "chain":
                    if (net.chains.size() == 3) {
                        return 2;
                    }
                    chain = new ArrayList<>();
                    net.chains.add(chain);
                    return go("chain");
                default:
                    name = t;
                    return first(word(t), net.gates.size() == 16 ? 2 : 0, net.names.contains(t) ? 4 : 0, go("="));
            }
        }

        private int inName(String t) {
            int fault = first(word(t), net.inputs == 6 ? 2 : 0, net.names.contains(t) ? 4 : 0);
            net.names.add(t);
            net.inputs++;
            return first(fault, go("in more"));
        }

        private int of(String t, boolean end) {
            boolean enough = from.size() >= (kind == 0 ? 1 : 2);
            if (end && enough) {
                net.names.add(name);
                net.gates.add(new Gate(kind, from));
                return go("clause");
            }
            if (from.size() == (kind == 0 ? 1 : 3)) {
                return 1;
            }
            from.add(net.names.indexOf(t));
            return first(word(t), net.names.contains(t) ? 0 : 3);
        }

        private int see(String t) {
            int line = net.names.indexOf(t);
            return first(word(t), line < 0 ? 3 : 0, net.told.add(line) ? 0 : 5, go("see more"));
        }

        private int chain(String t) {
            int at = net.names.indexOf(t);
            int fault = first(word(t), at < 0 || at >= net.inputs ? 3 : 0, net.chainOf(at) != NONE ? 5 : 0);
            chain.add(at);
            return first(fault, go("chain more"));
        }

        private int take(String t) {
            input = net.names.indexOf(t);
            int fault = first(word(t), input < 0 || input >= net.inputs || net.chainOf(input) == NONE ? 3 : 0);
            return fault != 0 ? fault : net.takes[input] != NONE ? 5 : go("take of");
        }
    }

    public int fault() {
        return place;
    }

    public int count(int what) {
        int faults = 2 * net.names.size();
        switch (what) {
            case 0: return net.inputs;
            case 1: return net.gates.size();
            case 2:
                int seen = 0;
                for (int l = 0; l < net.names.size(); l++) {
                    seen += net.seen(l) ? 1 : 0;
                }
                return seen;
            case 3: return net.chains.size();
            case 4: return state.fill;
            case 5: return faults;
            case 6: return (int) net.tests.stream().filter(List::isEmpty).count();
            case 7: return (int) net.tests.stream().filter(t -> !t.isEmpty()).distinct().count();
            case 8: return state.done.size();
            case 9: return number(state.has);
            case 10: return state.cycles;
            case 11: return state.defect;
            case 12: return state.picked.size();
            case 13: return program().size();
            case 14: return acts.size();
            case 15: return noted.size();
            case 16: return tape.length();
            case 17:
            case 18:
            case 19: return status[what - 17];
            default: throw new NoSuchElementException();
        }
    }

    private void needLine(int line) {
        if (line < 0 || line >= net.names.size()) {
            throw new NoSuchElementException();
        }
    }

    private boolean isFault(int fault) {
        return fault >= 0 && fault < 2 * net.names.size();
    }

    private void needFault(int fault) {
        if (!isFault(fault)) {
            throw new NoSuchElementException();
        }
    }

    public int line(int line, int what) {
        needLine(line);
        Gate gate = line < net.inputs ? null : net.gates.get(line - net.inputs);
        switch (what) {
            case 0: return gate == null ? NONE : gate.kind;
            case 1: return gate == null ? 0 : gate.from.size();
            case 2:
            case 3:
            case 4: return gate == null || gate.from.size() < what - 1 ? NONE : gate.from.get(what - 2);
            case 5: return net.seen(line) ? 1 : 0;
            case 6: return values(state.has, state.defect)[line];
            case 7: return net.chainOf(line);
            case 8: return gate == null ? net.takes[line] : NONE;
            case 9: return net.names.get(line).length();
            default: throw new NoSuchElementException();
        }
    }

    public int letter(int line, int i) {
        needLine(line);
        String name = net.names.get(line);
        if (i < 0 || i >= name.length()) {
            throw new NoSuchElementException();
        }
        return name.charAt(i) - 'a' + 1;
    }

    private List<Integer> cells(int chain, int i) {
        if (chain < 0 || chain >= net.chains.size() || i < -1 || i >= net.chains.get(chain).size()) {
            throw new NoSuchElementException();
        }
        return net.chains.get(chain);
    }

    public int chain(int chain, int i) {
        List<Integer> cells = cells(chain, i);
        return i == NONE ? cells.size() : cells.get(i);
    }

    public int test(int fault, int what) {
        needFault(fault);
        List<Integer> tests = net.tests.get(fault);
        switch (what) {
            case 0: return tests.size();
            case 1: return why(fault);
            case 2: return net.tests.indexOf(tests);
            case 3:
                int under = 0;
                for (List<Integer> other : net.tests) {
                    under += !lost(fault) && other.containsAll(tests) && other.size() > tests.size() ? 1 : 0;
                }
                return under;
            case 4: return state.done.contains(fault) ? 1 : 0;
            case 5: return lost(fault) ? NONE : set(net.cubes.get(fault));
            default: throw new NoSuchElementException();
        }
    }

    private int why(int fault) {
        if (!lost(fault)) {
            return 0;
        }
        for (int r = 0; r < 1 << net.inputs; r++) {
            if (values(bits(r), NONE)[fault / 2] != fault % 2) {
                return 2;
            }
        }
        return 1;
    }

    public int row(int fault, int i) {
        needFault(fault);
        if (i < 0 || i >= net.tests.get(fault).size()) {
            throw new NoSuchElementException();
        }
        return net.tests.get(fault).get(i);
    }

    public int cube(int fault, int input) {
        needFault(fault);
        if (lost(fault) || input < 0 || input >= net.inputs) {
            throw new NoSuchElementException();
        }
        return net.cubes.get(fault)[input];
    }

    public int by(int row, int fault, int line) {
        needLine(line);
        if (fault != NONE) {
            needFault(fault);
        }
        if (row < 0 || row >= Math.pow(3, net.inputs)) {
            throw new IllegalArgumentException();
        }
        int[] is = new int[net.inputs];
        for (int i = 0, rest = row; i < net.inputs; i++, rest /= 3) {
            is[i] = rest % 3;
        }
        return values(is, fault)[line];
    }

    private static boolean agree(int[] one, int[] other) {
        for (int i = 0; i < one.length; i++) {
            if (one[i] != 2 && other[i] != 2 && one[i] != other[i]) {
                return false;
            }
        }
        return true;
    }

    private record Step(int[] pattern, int catches, int merged) { }

    private List<Step> program() {
        List<Integer> open = new ArrayList<>();
        for (int f = 0; f < 2 * net.names.size(); f++) {
            if (!lost(f) && !state.done.contains(f)) {
                open.add(f);
            }
        }
        List<Step> program = new ArrayList<>();
        while (!open.isEmpty()) {
            int[] merged = new int[net.inputs];
            Arrays.fill(merged, 2);
            int cubes = 0;
            for (int f : open) {
                int[] cube = net.cubes.get(f);
                if (agree(merged, cube)) {
                    cubes++;
                    for (int i = 0; i < merged.length; i++) {
                        merged[i] = cube[i] != 2 ? cube[i] : merged[i];
                    }
                }
            }
            int[] pattern = filled(merged);
            int before = open.size();
            open.removeIf(f -> caught(pattern, f));
            program.add(new Step(pattern, before - open.size(), cubes));
        }
        return program;
    }

    private int[] filled(int[] merged) {
        int[] row = merged.clone();
        if (state.fill == 2) {
            for (List<Integer> cells : net.chains) {
                int first = cells.stream().map(c -> merged[c]).filter(v -> v != 2).findFirst().orElse(0);
                for (int k = 0; k < cells.size(); k++) {
                    if (row[cells.get(k)] == 2) {
                        row[cells.get(k)] = k == 0 ? first : row[cells.get(k - 1)];
                    }
                }
            }
        }
        for (int i = 0; i < row.length; i++) {
            row[i] = row[i] != 2 ? row[i] : state.fill == 1 ? 1 : 0;
        }
        return row;
    }

    private static int cost(List<Integer> cells, int[] pattern) {
        int cost = 0;
        for (int k = 1; k < cells.size(); k++) {
            cost += pattern[cells.get(k - 1)] != pattern[cells.get(k)] ? k : 0;
        }
        return cost;
    }

    public int program(int i, int what) {
        List<Step> program = program();
        if (i < 0 || i >= program.size() || what < 0 || what > 3) {
            throw new NoSuchElementException();
        }
        Step step = program.get(i);
        return switch (what) {
            case 0 -> number(step.pattern);
            case 1 -> step.catches;
            case 2 -> net.chains.stream().mapToInt(c -> cost(c, step.pattern)).sum();
            default -> step.merged;
        };
    }

    private static void orders(List<Integer> left, List<Integer> so, List<List<Integer>> all) {
        if (left.isEmpty()) {
            all.add(new ArrayList<>(so));
        }
        for (Integer next : left) {
            List<Integer> rest = new ArrayList<>(left);
            rest.remove(next);
            so.add(next);
            orders(rest, so, all);
            so.remove(so.size() - 1);
        }
    }

    public int order(int chain, int i) {
        List<Integer> cells = new ArrayList<>(cells(chain, i));
        cells.sort(null);
        List<List<Integer>> all = new ArrayList<>();
        orders(cells, new ArrayList<>(), all);
        List<Step> program = program();
        int least = Integer.MAX_VALUE;
        List<Integer> best = null;
        for (List<Integer> order : all) {
            int cost = program.stream().mapToInt(s -> cost(order, s.pattern)).sum();
            if (cost < least) {
                least = cost;
                best = order;
            }
        }
        return i == NONE ? least : best.get(i);
    }

    private List<Integer> fewest;

    private void groups(List<Integer> so) {
        int used = so.stream().mapToInt(g -> g + 1).max().orElse(0);
        if (fewest != null && used >= fewest.stream().mapToInt(g -> g + 1).max().orElse(0) && !so.isEmpty()) {
            return;
        }
        int at = so.size();
        if (at == state.picked.size()) {
            fewest = new ArrayList<>(so);
            return;
        }
        for (int g = 0; g <= used; g++) {
            boolean agrees = true;
            for (int i = 0; i < at; i++) {
                agrees &= so.get(i) != g
                    || agree(net.cubes.get(state.picked.get(i)), net.cubes.get(state.picked.get(at)));
            }
            if (agrees) {
                so.add(g);
                groups(so);
                so.remove(at);
            }
        }
    }

    public int pack(int i) {
        if (i < -1 || i >= state.picked.size()) {
            throw new NoSuchElementException();
        }
        fewest = null;
        groups(new ArrayList<>());
        return i == NONE ? fewest.stream().mapToInt(g -> g + 1).max().orElse(0) : fewest.get(i);
    }

    private int refuse(int what) {
        status[what]++;
        return NONE;
    }

    private void act() {
        acts.addLast(state.copy());
        if (acts.size() > 40) {
            acts.removeFirst();
        }
    }

    public int put(int input, int v) {
        if (input < 0 || input >= net.inputs || net.chainOf(input) != NONE || v < 0 || v > 1) {
            return refuse(1);
        }
        act();
        int was = state.has[input];
        state.has[input] = v;
        return was;
    }

    private static int shifted(Net net, int[] has, int in) {
        int[] had = has.clone();
        int out = 0;
        for (int c = 0; c < net.chains.size(); c++) {
            List<Integer> cells = net.chains.get(c);
            for (int k = 0; k < cells.size(); k++) {
                has[cells.get(k)] = k == 0 ? in >> c & 1 : had[cells.get(k - 1)];
            }
            out |= had[cells.get(cells.size() - 1)] << c;
        }
        return out;
    }

    private int[] taken(int[] has, int fault) {
        int[] is = values(has, fault);
        int[] after = has.clone();
        for (int i = 0; i < net.inputs; i++) {
            if (net.takes[i] != NONE) {
                after[i] = is[net.takes[i]];
            }
        }
        return after;
    }

    private void setAll(int[] has) {
        System.arraycopy(has, 0, state.has, 0, has.length);
    }

    private void cycle(int n) {
        state = state.with(state.cycles + n, state.defect, state.fill);
    }

    public int shift(int in) {
        if (net.chains.isEmpty() || in < 0 || in > 7) {
            return refuse(1);
        }
        act();
        cycle(1);
        return shifted(net, state.has, in);
    }

    public int take() {
        act();
        cycle(1);
        setAll(taken(state.has, state.defect));
        return number(state.has);
    }

    private int longest() {
        return net.chains.stream().mapToInt(List::size).max().orElse(0);
    }

    public int load(int row) {
        if (row < 0 || row >= 1 << net.inputs) {
            return refuse(1);
        }
        act();
        loadThrough(row);
        cycle(longest());
        return longest();
    }

    /** Bit by bit, as the words tell it: what is to stand last goes in first. */
    private void loadThrough(int row) {
        int cycles = longest();
        for (int t = 0; t < cycles; t++) {
            int in = 0;
            for (int c = 0; c < net.chains.size(); c++) {
                List<Integer> cells = net.chains.get(c);
                int k = cycles - 1 - t;
                in |= k < cells.size() ? (row >> cells.get(k) & 1) << c : 0;
            }
            shifted(net, state.has, in);
        }
        for (int i = 0; i < net.inputs; i++) {
            if (net.chainOf(i) == NONE) {
                state.has[i] = row >> i & 1;
            }
        }
    }

    private int applied() {
        int before = state.done.size();
        for (int f = 0; f < 2 * net.names.size(); f++) {
            if (caught(state.has, f)) {
                state.done.add(f);
            }
        }
        return state.done.size() - before;
    }

    public int apply() {
        act();
        return applied();
    }

    public int defect(int fault) {
        if (fault != NONE) {
            needFault(fault);
        }
        act();
        int was = state.defect;
        state = state.with(state.cycles, fault, state.fill);
        return was;
    }

    public int fill(int fill) {
        if (fill < 0 || fill > 2) {
            return refuse(1);
        }
        act();
        int was = state.fill;
        state = state.with(state.cycles, state.defect, fill);
        return was;
    }

    public int pick(int fault) {
        boolean none = fault == NONE;
        if (!none && (!isFault(fault) || lost(fault) || state.picked.contains(fault) || state.picked.size() == 8)) {
            return refuse(1);
        }
        act();
        if (none) {
            state.picked.clear();
        } else {
            state.picked.add(fault);
        }
        return state.picked.size();
    }

    public int undo() {
        if (acts.isEmpty()) {
            return NONE;
        }
        state = acts.removeLast();
        return acts.size();
    }

    public int note(int row, int line, int v) {
        boolean isRow = row >= 0 && row < 1 << net.inputs;
        boolean isSeen = line >= 0 && line < net.names.size() && net.seen(line);
        if (noted.size() == 10 || !isRow || !isSeen || v < 0 || v > 1) {
            return refuse(2);
        }
        noted.add(new Note(row, line, v));
        return noted.size();
    }

    private boolean fitting(int fault) {
        return noted.stream().allMatch(n -> values(bits(n.row), fault)[n.line] == n.v);
    }

    private List<Integer> allFitting() {
        List<Integer> fits = new ArrayList<>();
        for (int f = 0; f < 2 * net.names.size(); f++) {
            if (fitting(f)) {
                fits.add(f);
            }
        }
        return fits;
    }

    public int fits(int i) {
        List<Integer> fits = allFitting();
        if (i == -2) {
            return fitting(NONE) ? 1 : 0;
        }
        if (i < -2 || i >= fits.size()) {
            throw new NoSuchElementException();
        }
        return i == NONE ? fits.size() : fits.get(i);
    }

    public int look(int what) {
        if (what < 0 || what > 1) {
            throw new NoSuchElementException();
        }
        List<Integer> suspects = allFitting();
        if (fitting(NONE)) {
            suspects.add(NONE);
        }
        int best = NONE;
        int most = 0;
        for (int r = 0; r < 1 << net.inputs; r++) {
            Set<List<Integer>> unlike = new HashSet<>();
            for (int f : suspects) {
                int[] is = values(bits(r), f);
                List<Integer> seen = new ArrayList<>();
                for (int l = 0; l < is.length; l++) {
                    if (net.seen(l)) {
                        seen.add(is[l]);
                    }
                }
                unlike.add(seen);
            }
            if (unlike.size() > most) {
                most = unlike.size();
                best = r;
            }
        }
        return what == 0 ? best : most;
    }

    public void forget() {
        noted.clear();
    }

    public int behind(int n) {
        if (n < 0 || n > 40) {
            throw new IllegalArgumentException();
        }
        int[] has = state.has;
        for (int i = 0; i < n; i++) {
            has = taken(has, state.defect);
        }
        return number(has);
    }

    public int back() {
        int[] has = state.has;
        for (int n = 1; n <= 64; n++) {
            has = taken(has, state.defect);
            if (Arrays.equals(has, state.has)) {
                return n;
            }
        }
        return NONE;
    }

    public int tells(int fault) {
        needFault(fault);
        int[] sound = state.has;
        int[] stuck = state.has;
        for (int n = 0; n <= 64; n++) {
            int[] is = values(sound, NONE);
            int[] with = values(stuck, fault);
            for (int l = 0; l < is.length; l++) {
                if (net.seen(l) && is[l] != with[l]) {
                    return n;
                }
            }
            sound = taken(sound, NONE);
            stuck = taken(stuck, fault);
        }
        return NONE;
    }

    public int years(int seed, int n, int what) {
        if (what < 0 || what > 2) {
            throw new NoSuchElementException();
        }
        if (n < 0 || n > 60) {
            throw new IllegalArgumentException();
        }
        State before = state;
        state = state.copy();
        seedNow = seed;
        int cycles = 0;
        for (int i = 0; i < n; i++) {
            int what4 = draw(4);
            if (what4 == 0) {
                int in = draw(8);
                if (!net.chains.isEmpty()) {
                    shifted(net, state.has, in);
                    cycles++;
                }
            } else if (what4 == 1) {
                setAll(taken(state.has, state.defect));
                cycles++;
            } else if (what4 == 2) {
                loadThrough(draw(64));
                cycles += longest();
            } else {
                applied();
            }
        }
        int answer = what == 0 ? state.done.size() : what == 1 ? cycles : number(state.has);
        state = before;
        return answer;
    }

    private int seedNow;

    private int draw(int n) {
        seedNow = seedNow * 1103515245 + 12345;
        return (seedNow >>> 16) % 32768 % n;
    }

    public void image() {
        List<State> kept = new ArrayList<>();
        acts.forEach(s -> kept.add(s.copy()));
        image = new Image(state.copy(), kept, new ArrayList<>(noted), status.clone());
    }

    public boolean restore() {
        if (image == null) {
            return false;
        }
        state = image.state.copy();
        acts = new ArrayDeque<>();
        image.acts.forEach(s -> acts.addLast(s.copy()));
        noted = new ArrayList<>(image.noted);
        status = image.status.clone();
        return true;
    }
}
