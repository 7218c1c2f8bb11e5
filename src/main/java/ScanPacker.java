import java.util.NoSuchElementException;

/** Tests for a net of gates that are shifted in through chains; ../shared/DOC.md says what each call does. */
public final class ScanPacker {
    public static final int NONE = -1;

    private static final int MOST_INPUTS = 6;
    private static final int MOST_GATES = 16;
    private static final int MOST_LINES = MOST_INPUTS + MOST_GATES;
    private static final int MOST_FAULTS = 2 * MOST_LINES;
    private static final int MOST_CHAINS = 3;
    private static final int MOST_ROWS = 64;
    private static final int MOST_CUBE_ROWS = 729;
    private static final int MOST_BYTES = 900;
    private static final int MOST_LETTERS = 6;
    private static final int MOST_OF = 3;
    private static final int MOST_PICKED = 8;
    private static final int MOST_NOTED = 10;
    private static final int MOST_ACTS = 40;
    private static final int MOST_BEHIND = 40;
    private static final int MOST_AHEAD = 64;
    private static final int MOST_YEARS = 60;
    private static final int BYTES_FED = 20;
    private static final int UNSET = 2;

    private static final int NOT = 0;
    private static final int AND = 1;
    private static final int OR = 2;
    private static final int XOR = 3;
    private static final int NAND = 4;
    private static final int NOR = 5;

    private static final int TEXTS = 0;
    private static final int ACTS = 1;
    private static final int NOTES = 2;

    private final Parser parser = new Parser();
    private Net wired = new Net();
    private int faultPlace = NONE;
    private final Catalog catalog = new Catalog();
    private final Program plan = new Program();
    private final Packs packs = new Packs();
    private final Diagnosis diagnosis = new Diagnosis();
    private final Session now = new Session();
    private final Session kept = new Session();
    private boolean hasImage = false;
    private final State trial = new State();

    public ScanPacker() {
        beginNet();
    }

    public int feed(int a, int b, int c, int d, int e) {
        Tape tape = parser.tape;
        if (tape.length + BYTES_FED > MOST_BYTES) {
            return NONE;
        }
        tape.append(a);
        tape.append(b);
        tape.append(c);
        tape.append(d);
        tape.append(e);
        return tape.length;
    }

    public int net(int n) throws IllegalArgumentException {
        if (n < 0 || n > parser.tape.length) {
            throw new IllegalArgumentException();
        }
        int fault = parser.read(n);
        faultPlace = parser.place;
        if (fault != 0) {
            now.refuse(TEXTS);
            return fault;
        }
        wired = parser.handOver(wired);
        beginNet();
        return 0;
    }

    public int fault() {
        return faultPlace;
    }

    public int count(int what) throws NoSuchElementException {
        if (what < 0 || what > 19) {
            throw new NoSuchElementException();
        }
        if (what <= 7) {
            return countOfNet(what);
        }
        if (what >= 17) {
            return now.refused[what - 17];
        }
        return countOfMachine(what);
    }

    public int line(int line, int what) throws NoSuchElementException {
        needLine(line);
        if (what < 0 || what > 9) {
            throw new NoSuchElementException();
        }
        switch (what) {
            case 0: return wired.kinds[line];
            case 1: return wired.sizes[line];
            case 2:
            case 3:
            case 4: return wired.sizes[line] > what - 2 ? wired.from[line][what - 2] : NONE;
            case 5: return wired.isSeen(line) ? 1 : 0;
            case 6: return catalog.tell(now.state.defect, line, now.state.inputs);
            case 7: return line < wired.inputs ? wired.chainOf[line] : NONE;
            case 8: return line < wired.inputs ? wired.takes[line] : NONE;
            default: return wired.letters[line];
        }
    }

    public int letter(int line, int i) throws NoSuchElementException {
        needLine(line);
        if (i < 0 || i >= wired.letters[line]) {
            throw new NoSuchElementException();
        }
        return wired.names[line] >>> 5 * (wired.letters[line] - 1 - i) & 31;
    }

    public int chain(int chain, int i) throws NoSuchElementException {
        needCell(chain, i);
        return i == NONE ? wired.cellCounts[chain] : wired.cells[chain][i];
    }

    public int test(int fault, int what) throws NoSuchElementException {
        needFault(fault);
        switch (what) {
            case 0: return Long.bitCount(catalog.tests[fault]);
            case 1: return catalog.whyLost(fault);
            case 2: return catalog.leastAlike(fault);
            case 3: return catalog.countOver(fault);
            case 4: return (int) (now.state.done >>> fault) & 1;
            case 5: return catalog.isLost(fault) ? NONE : Integer.bitCount(catalog.cubeSet[fault]);
            default: throw new NoSuchElementException();
        }
    }

    public int row(int fault, int i) throws NoSuchElementException {
        needFault(fault);
        if (i < 0 || i >= Long.bitCount(catalog.tests[fault])) {
            throw new NoSuchElementException();
        }
        return catalog.testAt(fault, i);
    }

    public int cube(int fault, int input) throws NoSuchElementException {
        needFault(fault);
        if (catalog.isLost(fault) || input < 0 || input >= wired.inputs) {
            throw new NoSuchElementException();
        }
        if ((catalog.cubeSet[fault] >>> input & 1) == 0) {
            return UNSET;
        }
        return catalog.cubeOnes[fault] >>> input & 1;
    }

    public int by(int row, int fault, int line) throws NoSuchElementException, IllegalArgumentException {
        needLine(line);
        if (fault != NONE) {
            needFault(fault);
        }
        if (row < 0 || row >= catalog.cubeRows) {
            throw new IllegalArgumentException();
        }
        return catalog.tellUnset(wired, row, fault, line);
    }

    public int program(int i, int what) throws NoSuchElementException {
        planNow();
        if (i < 0 || i >= plan.size || what < 0 || what > 3) {
            throw new NoSuchElementException();
        }
        switch (what) {
            case 0: return plan.patterns[i];
            case 1: return plan.catches[i];
            case 2: return plan.costOfPattern(wired, plan.patterns[i]);
            default: return plan.merged[i];
        }
    }

    public int order(int chain, int i) throws NoSuchElementException {
        needCell(chain, i);
        planNow();
        int cost = plan.arrange(wired, chain);
        return i == NONE ? cost : plan.best[i];
    }

    public int pack(int i) throws NoSuchElementException {
        if (i < NONE || i >= now.state.picks) {
            throw new NoSuchElementException();
        }
        int groups = packs.arrange(catalog, now.state);
        return i == NONE ? groups : packs.groups[i];
    }

    public int put(int input, int v) {
        if (!wired.isPin(input) || !isBit(v)) {
            return refuseAct();
        }
        now.keepState();
        int was = bitOf(now.state.inputs, input);
        now.state.inputs = withBit(now.state.inputs, input, v);
        return was;
    }

    public int shift(int in) {
        if (wired.chains == 0 || in < 0 || in > 7) {
            return refuseAct();
        }
        now.keepState();
        return now.state.shiftCells(wired, in);
    }

    public int take() {
        now.keepState();
        now.state.takeLines(wired, catalog);
        return now.state.inputs;
    }

    public int load(int row) {
        if (!catalog.isRow(row)) {
            return refuseAct();
        }
        now.keepState();
        return now.state.loadRow(wired, row);
    }

    public int apply() {
        now.keepState();
        return now.state.applyInputs(catalog);
    }

    public int defect(int fault) throws NoSuchElementException {
        if (fault != NONE) {
            needFault(fault);
        }
        now.keepState();
        int was = now.state.defect;
        now.state.defect = fault;
        return was;
    }

    public int fill(int fill) {
        if (fill < 0 || fill > 2) {
            return refuseAct();
        }
        now.keepState();
        int was = now.state.filling;
        now.state.filling = fill;
        return was;
    }

    public int pick(int fault) {
        if (fault == NONE) {
            now.keepState();
            now.state.picks = 0;
            return 0;
        }
        if (!catalog.isFault(fault) || catalog.isLost(fault) || !now.state.canPick(fault)) {
            return refuseAct();
        }
        now.keepState();
        return now.state.addPick(fault);
    }

    public int undo() {
        return now.undoLast();
    }

    public int note(int row, int line, int v) {
        boolean seen = wired.isLine(line) && wired.isSeen(line);
        if (now.notes >= MOST_NOTED || !catalog.isRow(row) || !seen || !isBit(v)) {
            now.refuse(NOTES);
            return NONE;
        }
        return now.addNote(row, line, v);
    }

    public int fits(int i) throws NoSuchElementException {
        diagnosis.gather(catalog, now);
        if (i < -2 || i >= diagnosis.fitting) {
            throw new NoSuchElementException();
        }
        if (i == -2) {
            return diagnosis.soundFits ? 1 : 0;
        }
        return i == NONE ? diagnosis.fitting : diagnosis.suspects[i];
    }

    public int look(int what) throws NoSuchElementException {
        if (what != 0 && what != 1) {
            throw new NoSuchElementException();
        }
        diagnosis.gather(catalog, now);
        diagnosis.seekRow(wired, catalog);
        return what == 0 ? diagnosis.row : diagnosis.unlike;
    }

    public void forget() {
        now.notes = 0;
    }

    public int behind(int n) throws IllegalArgumentException {
        if (n < 0 || n > MOST_BEHIND) {
            throw new IllegalArgumentException();
        }
        int inputs = now.state.inputs;
        for (int i = 0; i < n; i++) {
            inputs = catalog.inputsTaken(wired, inputs, now.state.defect);
        }
        return inputs;
    }

    public int back() {
        int inputs = now.state.inputs;
        for (int n = 1; n <= MOST_AHEAD; n++) {
            inputs = catalog.inputsTaken(wired, inputs, now.state.defect);
            if (inputs == now.state.inputs) {
                return n;
            }
        }
        return NONE;
    }

    public int tells(int fault) throws NoSuchElementException {
        needFault(fault);
        int sound = now.state.inputs;
        int stuck = now.state.inputs;
        for (int n = 0; n <= MOST_AHEAD; n++) {
            if (catalog.tellApart(wired, sound, stuck, fault)) {
                return n;
            }
            sound = catalog.inputsTaken(wired, sound, NONE);
            stuck = catalog.inputsTaken(wired, stuck, fault);
        }
        return NONE;
    }

    public int years(int seed, int n, int what) throws NoSuchElementException, IllegalArgumentException {
        if (what < 0 || what > 2) {
            throw new NoSuchElementException();
        }
        if (n < 0 || n > MOST_YEARS) {
            throw new IllegalArgumentException();
        }
        trial.copyFrom(now.state);
        trial.cycles = 0;
        int next = seed;
        for (int i = 0; i < n; i++) {
            next = liveYear(next);
        }
        switch (what) {
            case 0: return Long.bitCount(trial.done);
            case 1: return trial.cycles;
            default: return trial.inputs;
        }
    }

    public void image() {
        kept.copyFrom(now);
        hasImage = true;
    }

    public boolean restore() {
        if (!hasImage) {
            return false;
        }
        now.copyFrom(kept);
        return true;
    }

    private void beginNet() {
        catalog.describe(wired);
        plan.built = false;
        now.begin(wired.filling);
        hasImage = false;
    }

    private int countOfNet(int what) {
        switch (what) {
            case 0: return wired.inputs;
            case 1: return wired.gates;
            case 2: return Integer.bitCount(wired.toldSeen | wired.taken);
            case 3: return wired.chains;
            case 4: return now.state.filling;
            case 5: return catalog.faults;
            case 6: return catalog.faults - Long.bitCount(catalog.found);
            default: return catalog.countGroups();
        }
    }

    private int countOfMachine(int what) {
        switch (what) {
            case 8: return Long.bitCount(now.state.done);
            case 9: return now.state.inputs;
            case 10: return now.state.cycles;
            case 11: return now.state.defect;
            case 12: return now.state.picks;
            case 13:
                planNow();
                return plan.size;
            case 14: return now.acts;
            case 15: return now.notes;
            default: return parser.tape.length;
        }
    }

    private void planNow() {
        plan.build(wired, catalog, now.state.done, now.state.filling);
    }

    /** One year of the trial; the seed behind it. */
    private int liveYear(int seed) {
        int next = stir(seed);
        switch (draw(next, 4)) {
            case 0:
                next = stir(next);
                if (wired.chains > 0) {
                    trial.shiftCells(wired, draw(next, 8));
                }
                break;
            case 1:
                trial.takeLines(wired, catalog);
                break;
            case 2:
                next = stir(next);
                trial.loadRow(wired, draw(next, 64) & catalog.rows - 1);
                break;
            default:
                trial.applyInputs(catalog);
                break;
        }
        return next;
    }

    private static int stir(int seed) {
        return seed * 1103515245 + 12345;
    }

    private static int draw(int seed, int n) {
        return n < 1 ? 0 : (seed >>> 16 & 0x7FFF) % n;
    }

    private int refuseAct() {
        now.refuse(ACTS);
        return NONE;
    }

    private void needLine(int line) {
        if (!wired.isLine(line)) {
            throw new NoSuchElementException();
        }
    }

    private void needFault(int fault) {
        if (!catalog.isFault(fault)) {
            throw new NoSuchElementException();
        }
    }

    /** A CELL of a CHAIN, or NONE, which asks for all of them. */
    private void needCell(int chain, int i) {
        if (chain < 0 || chain >= wired.chains || i < NONE || i >= wired.cellCounts[chain]) {
            throw new NoSuchElementException();
        }
    }

    private static boolean isBit(int v) {
        return v == 0 || v == 1;
    }

    private static int bitOf(int number, int bit) {
        return number >>> bit & 1;
    }

    private static int withBit(int number, int bit, int value) {
        return number & ~(1 << bit) | value << bit;
    }

    /** What one TEXT tells. */
    private static final class Net {
        int inputs;
        int gates;
        int chains;
        int filling;
        boolean fillTold;
        int toldSeen;
        int taken;
        final int[] names = new int[MOST_LINES];
        final int[] letters = new int[MOST_LINES];
        final int[] kinds = new int[MOST_LINES];
        final int[] sizes = new int[MOST_LINES];
        final int[][] from = new int[MOST_LINES][MOST_OF];
        final int[] chainOf = new int[MOST_INPUTS];
        final int[] takes = new int[MOST_INPUTS];
        final int[][] cells = new int[MOST_CHAINS][MOST_INPUTS];
        final int[] cellCounts = new int[MOST_CHAINS];

        void clear() {
            inputs = 0;
            gates = 0;
            chains = 0;
            filling = 0;
            fillTold = false;
            toldSeen = 0;
            taken = 0;
        }

        int lines() {
            return inputs + gates;
        }

        boolean isLine(int line) {
            return line >= 0 && line < lines();
        }

        boolean isPin(int input) {
            return input >= 0 && input < inputs && chainOf[input] == NONE;
        }

        boolean isSeen(int line) {
            return bitOf(toldSeen | taken, line) == 1;
        }

        int find(int name) {
            for (int line = 0; line < lines(); line++) {
                if (names[line] == name) {
                    return line;
                }
            }
            return NONE;
        }

        void addInput(int name, int length) {
            if (inputs >= MOST_INPUTS) {
                return;
            }
            nameNext(name, length, NONE);
            chainOf[inputs] = NONE;
            takes[inputs] = NONE;
            inputs++;
        }

        /** What the next LINE will be, without being one yet: a GATE is not among the LINES it may be of. */
        void nameNext(int name, int length, int kind) {
            int line = lines();
            if (line >= MOST_LINES) {
                return;
            }
            names[line] = name;
            letters[line] = length;
            kinds[line] = kind;
            sizes[line] = 0;
        }

        void addFrom(int from) {
            int gate = lines();
            if (gate >= MOST_LINES || sizes[gate] >= MOST_OF) {
                return;
            }
            this.from[gate][sizes[gate]] = from;
            sizes[gate]++;
        }

        void addCell(int chain, int input) {
            if (chain >= MOST_CHAINS || cellCounts[chain] >= MOST_INPUTS) {
                return;
            }
            chainOf[input] = chain;
            cells[chain][cellCounts[chain]] = input;
            cellCounts[chain]++;
        }

        int longestChain() {
            int longest = 0;
            for (int chain = 0; chain < chains; chain++) {
                longest = Math.max(longest, cellCounts[chain]);
            }
            return longest;
        }
    }

    /** The bytes fed, and the TOKENS of a text on them. */
    private static final class Tape {
        static final int END = 0;
        static final int STRANGE = 1;
        static final int NUMBER = 2;
        static final int SEMICOLON = 3;
        static final int EQUALS = 4;
        static final int NAME = 5;
        static final int IN = 6;
        static final int SEE = 7;
        static final int CHAIN = 8;
        static final int TAKE = 9;
        static final int FILL = 10;
        /** From here on: the number of the KIND above it. */
        static final int KIND = 11;

        // A word is a number of 5 bits a letter (a is 1), the first letter the highest.
        private static final int WORD_IN = 'i' % 32 << 5 | 'n' % 32;
        private static final int WORD_SEE = 's' % 32 << 10 | 'e' % 32 << 5 | 'e' % 32;
        private static final int WORD_CHAIN =
            'c' % 32 << 20 | 'h' % 32 << 15 | 'a' % 32 << 10 | 'i' % 32 << 5 | 'n' % 32;
        private static final int WORD_TAKE = 't' % 32 << 15 | 'a' % 32 << 10 | 'k' % 32 << 5 | 'e' % 32;
        private static final int WORD_FILL = 'f' % 32 << 15 | 'i' % 32 << 10 | 'l' % 32 << 5 | 'l' % 32;
        private static final int WORD_NOT = 'n' % 32 << 10 | 'o' % 32 << 5 | 't' % 32;
        private static final int WORD_AND = 'a' % 32 << 10 | 'n' % 32 << 5 | 'd' % 32;
        private static final int WORD_OR = 'o' % 32 << 5 | 'r' % 32;
        private static final int WORD_XOR = 'x' % 32 << 10 | 'o' % 32 << 5 | 'r' % 32;
        private static final int WORD_NAND = 'n' % 32 << 15 | 'a' % 32 << 10 | 'n' % 32 << 5 | 'd' % 32;
        private static final int WORD_NOR = 'n' % 32 << 10 | 'o' % 32 << 5 | 'r' % 32;

        private final byte[] bytes = new byte[MOST_BYTES];
        int length;
        private int end;
        private int at;
        int token;
        int start;
        int size;
        /** Of a word its number, of a NUMBER its last digit. */
        int value;

        void append(int number) {
            for (int shift = 24; shift >= 0 && length < MOST_BYTES; shift -= 8) {
                bytes[length] = (byte) (number >>> shift);
                length++;
            }
        }

        void beginText(int n) {
            end = Math.min(n, length);
            at = 0;
        }

        void clear() {
            length = 0;
        }

        void advance() {
            while (at < end && (bytes[at] == ' ' || bytes[at] == '\n')) {
                at++;
            }
            start = at;
            size = 0;
            value = 0;
            if (at >= end) {
                token = END;
            } else if (isLetter(bytes[at])) {
                readWord();
                token = size > MOST_LETTERS ? NAME : tokenOfWord(value);
            } else if (isDigit(bytes[at])) {
                readNumber();
            } else {
                readSign();
            }
        }

        private void readWord() {
            while (at < end && isLetter(bytes[at])) {
                value = value << 5 | bytes[at] % 32;
                at++;
            }
            size = at - start;
        }

        private void readNumber() {
            while (at < end && isDigit(bytes[at])) {
                value = bytes[at] - '0';
                at++;
            }
            size = at - start;
            token = NUMBER;
        }

        private void readSign() {
            int sign = bytes[at];
            at++;
            size = 1;
            token = sign == ';' ? SEMICOLON : sign == '=' ? EQUALS : STRANGE;
        }

        private static boolean isLetter(int sign) {
            return sign >= 'a' && sign <= 'z';
        }

        private static boolean isDigit(int sign) {
            return sign >= '0' && sign <= '9';
        }

        private static int tokenOfWord(int word) {
            switch (word) {
                case WORD_IN: return IN;
                case WORD_SEE: return SEE;
                case WORD_CHAIN: return CHAIN;
                case WORD_TAKE: return TAKE;
                case WORD_FILL: return FILL;
                case WORD_NOT: return KIND + NOT;
                case WORD_AND: return KIND + AND;
                case WORD_OR: return KIND + OR;
                case WORD_XOR: return KIND + XOR;
                case WORD_NAND: return KIND + NAND;
                case WORD_NOR: return KIND + NOR;
                default: return NAME;
            }
        }
    }

    /** Reads a TEXT into a draft, up to the first FAULT of the text. */
    private static final class Parser {
        private static final int OUT_OF_PLACE = 1;
        private static final int TOO_MUCH = 2;
        private static final int NOT_TOLD = 3;
        private static final int NAMED_ALREADY = 4;
        private static final int ALREADY = 5;

        final Tape tape = new Tape();
        private Net draft = new Net();
        private int fault;
        int place = NONE;

        int read(int n) {
            draft.clear();
            fault = 0;
            place = NONE;
            tape.beginText(n);
            tape.advance();
            boolean well = true;
            for (int i = 0; i < MOST_BYTES && well && tape.token != Tape.END; i++) {
                well = readClause();
                tape.advance();
            }
            tape.clear();
            return fault;
        }

        /** The NET that was read; the old one is the next draft, so that none is made anew. */
        Net handOver(Net old) {
            Net read = draft;
            draft = old;
            return read;
        }

        private boolean refuse(int fault) {
            this.fault = fault;
            place = tape.start;
            return false;
        }

        private boolean readClause() {
            switch (tape.token) {
                case Tape.IN: return readIn();
                case Tape.NAME: return readGate();
                case Tape.SEE: return readSee();
                case Tape.CHAIN: return readChain();
                case Tape.TAKE: return readTake();
                case Tape.FILL: return readFill();
                default: return refuse(OUT_OF_PLACE);
            }
        }

        private boolean readIn() {
            if (draft.gates > 0) {
                return refuse(OUT_OF_PLACE);
            }
            for (int i = 0; i < MOST_BYTES; i++) {
                tape.advance();
                if (i > 0 && tape.token == Tape.SEMICOLON) {
                    return true;
                }
                if (!isNewName(draft.inputs < MOST_INPUTS)) {
                    return false;
                }
                draft.addInput(tape.value, tape.size);
            }
            return refuse(OUT_OF_PLACE);
        }

        private boolean readGate() {
            if (!isNewName(draft.gates < MOST_GATES)) {
                return false;
            }
            int name = tape.value;
            int length = tape.size;
            tape.advance();
            if (tape.token != Tape.EQUALS) {
                return refuse(OUT_OF_PLACE);
            }
            tape.advance();
            int kind = tape.token - Tape.KIND;
            if (kind < NOT) {
                return refuse(OUT_OF_PLACE);
            }
            draft.nameNext(name, length, kind);
            return readFrom(kind == NOT ? 1 : 2, kind == NOT ? 1 : MOST_OF);
        }

        private boolean readFrom(int least, int most) {
            for (int i = 0; i <= most; i++) {
                tape.advance();
                if (i >= least && tape.token == Tape.SEMICOLON) {
                    draft.gates++;
                    return true;
                }
                if (i == most) {
                    return refuse(OUT_OF_PLACE);
                }
                int line = lineHere();
                if (line == NONE) {
                    return false;
                }
                draft.addFrom(line);
            }
            return refuse(OUT_OF_PLACE);
        }

        private boolean readSee() {
            for (int i = 0; i < MOST_BYTES; i++) {
                tape.advance();
                if (i > 0 && tape.token == Tape.SEMICOLON) {
                    return true;
                }
                int line = lineHere();
                if (line == NONE) {
                    return false;
                }
                if (bitOf(draft.toldSeen, line) == 1) {
                    return refuse(ALREADY);
                }
                draft.toldSeen |= 1 << line;
            }
            return refuse(OUT_OF_PLACE);
        }

        private boolean readChain() {
            int chain = draft.chains;
            if (chain >= MOST_CHAINS) {
                return refuse(TOO_MUCH);
            }
            draft.cellCounts[chain] = 0;
            draft.chains++;
            for (int i = 0; i < MOST_BYTES; i++) {
                tape.advance();
                if (i > 0 && tape.token == Tape.SEMICOLON) {
                    return true;
                }
                int input = inputHere();
                if (input == NONE) {
                    return false;
                }
                if (draft.chainOf[input] != NONE) {
                    return refuse(ALREADY);
                }
                draft.addCell(chain, input);
            }
            return refuse(OUT_OF_PLACE);
        }

        private boolean readTake() {
            tape.advance();
            int input = inputHere();
            if (input == NONE) {
                return false;
            }
            if (draft.chainOf[input] == NONE) {
                return refuse(NOT_TOLD);
            }
            if (draft.takes[input] != NONE) {
                return refuse(ALREADY);
            }
            tape.advance();
            int line = lineHere();
            if (line == NONE) {
                return false;
            }
            draft.takes[input] = line;
            draft.taken |= 1 << line;
            return isClosed();
        }

        private boolean readFill() {
            if (draft.fillTold) {
                return refuse(ALREADY);
            }
            tape.advance();
            if (tape.token != Tape.NUMBER) {
                return refuse(OUT_OF_PLACE);
            }
            if (tape.size > 1 || tape.value > 2) {
                return refuse(TOO_MUCH);
            }
            draft.fillTold = true;
            draft.filling = tape.value;
            return isClosed();
        }

        private boolean isClosed() {
            tape.advance();
            return tape.token == Tape.SEMICOLON || refuse(OUT_OF_PLACE);
        }

        /** The FAULT of a TOKEN where a NAME, a LINE or an INPUT must be, whichever names there are; 0: none. */
        private int faultOfWord() {
            if (tape.token != Tape.NAME) {
                return OUT_OF_PLACE;
            }
            return tape.size > MOST_LETTERS ? TOO_MUCH : 0;
        }

        private boolean isNewName(boolean hasRoom) {
            int wrong = faultOfWord();
            if (wrong != 0) {
                return refuse(wrong);
            }
            if (!hasRoom) {
                return refuse(TOO_MUCH);
            }
            return draft.find(tape.value) == NONE || refuse(NAMED_ALREADY);
        }

        private int lineHere() {
            int wrong = faultOfWord();
            if (wrong != 0) {
                refuse(wrong);
                return NONE;
            }
            int line = draft.find(tape.value);
            if (line == NONE) {
                refuse(NOT_TOLD);
            }
            return line;
        }

        private int inputHere() {
            int line = lineHere();
            if (line >= draft.inputs) {
                refuse(NOT_TOLD);
                return NONE;
            }
            return line;
        }
    }

    /** What all LINES are by up to 64 ROWS at once: bit r is ROW r; a bit in neither half is UNSET. */
    private static final class Waves {
        private final long[] inOnes = new long[MOST_INPUTS];
        private final long[] inZeros = new long[MOST_INPUTS];
        final long[] ones = new long[MOST_LINES];
        final long[] zeros = new long[MOST_LINES];

        void unsetInputs() {
            for (int input = 0; input < MOST_INPUTS; input++) {
                inOnes[input] = 0;
                inZeros[input] = 0;
            }
        }

        void setInput(int input, long toOne, long toZero) {
            inOnes[input] |= toOne;
            inZeros[input] |= toZero;
        }

        void copyInputs(Waves other) {
            for (int input = 0; input < MOST_INPUTS; input++) {
                inOnes[input] = other.inOnes[input];
                inZeros[input] = other.inZeros[input];
            }
        }

        void spread(Net net, int fault) {
            int stuck = fault == NONE ? NONE : fault / 2;
            for (int line = 0; line < net.lines(); line++) {
                if (line == stuck) {
                    ones[line] = fault % 2 == 1 ? -1L : 0L;
                    zeros[line] = ~ones[line];
                } else if (line < net.inputs) {
                    ones[line] = inOnes[line];
                    zeros[line] = inZeros[line];
                } else {
                    spreadGate(net, line);
                }
            }
        }

        private void spreadGate(Net net, int gate) {
            int kind = net.kinds[gate];
            int first = net.from[gate][0];
            long one = ones[first];
            long zero = zeros[first];
            for (int i = 1; i < net.sizes[gate]; i++) {
                int from = net.from[gate][i];
                if (kind == AND || kind == NAND) {
                    one &= ones[from];
                    zero |= zeros[from];
                } else if (kind == OR || kind == NOR) {
                    one |= ones[from];
                    zero &= zeros[from];
                } else {
                    long odd = one & zeros[from] | zero & ones[from];
                    zero = one & ones[from] | zero & zeros[from];
                    one = odd;
                }
            }
            boolean turned = kind == NOT || kind == NAND || kind == NOR;
            ones[gate] = turned ? zero : one;
            zeros[gate] = turned ? one : zero;
        }

        /** The ROWS by which a SEEN LINE is 0 here and 1 there, or 1 here and 0 there. */
        long tellApart(Waves other, Net net) {
            long apart = 0;
            for (int line = 0; line < net.lines(); line++) {
                if (net.isSeen(line)) {
                    apart |= ones[line] & other.zeros[line] | zeros[line] & other.ones[line];
                }
            }
            return apart;
        }
    }

    /** All that follows from a NET alone: what LINES are by each ROW and FAULT, TESTS, CUBES. */
    private static final class Catalog {
        /** For each INPUT the ROWS (bit r is ROW r) that have it 1. */
        private static final long[] ROWS_OF_INPUT = {
            0xAAAAAAAAAAAAAAAAL, 0xCCCCCCCCCCCCCCCCL, 0xF0F0F0F0F0F0F0F0L,
            0xFF00FF00FF00FF00L, 0xFFFF0000FFFF0000L, 0xFFFFFFFF00000000L
        };

        int faults;
        int rows;
        int cubeRows;
        /** FAULTS that aren't LOST, a bit each. */
        long found;
        /** What a LINE is by all ROWS without UNSET ones: behind NONE + 1 without a FAULT, behind f + 1 with f. */
        private final long[][] told = new long[MOST_FAULTS + 1][MOST_LINES];
        final long[] tests = new long[MOST_FAULTS];
        final int[] cubeSet = new int[MOST_FAULTS];
        final int[] cubeOnes = new int[MOST_FAULTS];
        private final int[] cubeSizes = new int[MOST_FAULTS];
        private final int[] rowSet = new int[MOST_CUBE_ROWS];
        private final int[] rowOnes = new int[MOST_CUBE_ROWS];
        private final Waves sound = new Waves();
        private final Waves stuck = new Waves();

        void describe(Net net) {
            faults = 2 * net.lines();
            rows = 1 << net.inputs;
            tellAll(net);
            findTests(net);
            listCubeRows(net.inputs);
            findCubes(net);
        }

        boolean isFault(int fault) {
            return fault >= 0 && fault < faults;
        }

        boolean isLost(int fault) {
            return (found >>> fault & 1) == 0;
        }

        boolean isRow(int row) {
            return row >= 0 && row < rows;
        }

        long allRows() {
            return rows >= MOST_ROWS ? -1L : (1L << rows) - 1;
        }

        /** What a LINE is by a ROW without UNSET ones, with a FAULT or NONE. */
        int tell(int fault, int line, int row) {
            return (int) (told[fault + 1][line] >>> row) & 1;
        }

        /** What a LINE is by a ROW told by numbers of 3. */
        int tellUnset(Net net, int row, int fault, int line) {
            stuck.unsetInputs();
            int rest = row;
            for (int input = 0; input < net.inputs; input++) {
                stuck.setInput(input, rest % 3 == 1 ? 1L : 0L, rest % 3 == 0 ? 1L : 0L);
                rest /= 3;
            }
            stuck.spread(net, fault);
            if ((stuck.ones[line] & 1) == 1) {
                return 1;
            }
            return (stuck.zeros[line] & 1) == 1 ? 0 : UNSET;
        }

        /** The ROWS by which a SEEN LINE is another one with one FAULT (or NONE) than with another one. */
        long unlike(Net net, int fault, int other) {
            long apart = 0;
            for (int line = 0; line < net.lines(); line++) {
                if (net.isSeen(line)) {
                    apart |= told[fault + 1][line] ^ told[other + 1][line];
                }
            }
            return apart;
        }

        /** Whether a SEEN LINE is another one by one ROW without a FAULT than by another ROW with it. */
        boolean tellApart(Net net, int soundRow, int stuckRow, int fault) {
            for (int line = 0; line < net.lines(); line++) {
                if (net.isSeen(line) && tell(NONE, line, soundRow) != tell(fault, line, stuckRow)) {
                    return true;
                }
            }
            return false;
        }

        int inputsTaken(Net net, int inputs, int fault) {
            int after = inputs;
            for (int cell = 0; cell < net.inputs; cell++) {
                if (net.takes[cell] != NONE) {
                    after = withBit(after, cell, tell(fault, net.takes[cell], inputs));
                }
            }
            return after;
        }

        /** FAULTS that are CAUGHT by a ROW, a bit each. */
        long caughtBy(int row) {
            long caught = 0;
            for (int fault = 0; fault < faults; fault++) {
                caught |= (tests[fault] >>> row & 1) << fault;
            }
            return caught;
        }

        int testAt(int fault, int i) {
            int left = i;
            for (int row = 0; row < rows; row++) {
                if ((tests[fault] >>> row & 1) == 1) {
                    if (left == 0) {
                        return row;
                    }
                    left--;
                }
            }
            return NONE;
        }

        int whyLost(int fault) {
            if (!isLost(fault)) {
                return 0;
            }
            long always = fault % 2 == 1 ? allRows() : 0L;
            return told[NONE + 1][fault / 2] == always ? 1 : 2;
        }

        int leastAlike(int fault) {
            for (int other = 0; other < fault; other++) {
                if (tests[other] == tests[fault]) {
                    return other;
                }
            }
            return fault;
        }

        int countOver(int fault) {
            if (isLost(fault)) {
                return 0;
            }
            int over = 0;
            for (int other = 0; other < faults; other++) {
                boolean hasAll = (tests[fault] & ~tests[other]) == 0;
                if (hasAll && tests[other] != tests[fault]) {
                    over++;
                }
            }
            return over;
        }

        int countGroups() {
            int groups = 0;
            for (int fault = 0; fault < faults; fault++) {
                if (!isLost(fault) && leastAlike(fault) == fault) {
                    groups++;
                }
            }
            return groups;
        }

        private void tellAll(Net net) {
            stuck.unsetInputs();
            for (int input = 0; input < net.inputs; input++) {
                stuck.setInput(input, ROWS_OF_INPUT[input], ~ROWS_OF_INPUT[input]);
            }
            for (int fault = NONE; fault < faults; fault++) {
                stuck.spread(net, fault);
                for (int line = 0; line < net.lines(); line++) {
                    told[fault + 1][line] = stuck.ones[line] & allRows();
                }
            }
        }

        private void findTests(Net net) {
            found = 0;
            for (int fault = 0; fault < faults; fault++) {
                tests[fault] = unlike(net, NONE, fault);
                if (tests[fault] != 0) {
                    found |= 1L << fault;
                }
            }
        }

        /** All ROWS, UNSET ones too, in the order in which of like CUBES the first is taken. */
        private void listCubeRows(int inputs) {
            cubeRows = 1;
            for (int input = 0; input < inputs; input++) {
                cubeRows *= 3;
            }
            for (int row = 0; row < cubeRows && row < MOST_CUBE_ROWS; row++) {
                int rest = row;
                rowSet[row] = 0;
                rowOnes[row] = 0;
                for (int input = inputs - 1; input >= 0; input--) {
                    rowSet[row] |= rest % 3 == UNSET ? 0 : 1 << input;
                    rowOnes[row] |= rest % 3 == 1 ? 1 << input : 0;
                    rest /= 3;
                }
            }
        }

        private void findCubes(Net net) {
            for (int fault = 0; fault < faults; fault++) {
                cubeSet[fault] = 0;
                cubeOnes[fault] = 0;
                cubeSizes[fault] = MOST_INPUTS + 1;
            }
            for (int first = 0; first < cubeRows; first += MOST_ROWS) {
                setCubeRows(net.inputs, first);
                sound.spread(net, NONE);
                for (int fault = 0; fault < faults; fault++) {
                    if (!isLost(fault)) {
                        stuck.spread(net, fault);
                        improveCube(fault, first, sound.tellApart(stuck, net));
                    }
                }
            }
        }

        private void setCubeRows(int inputs, int first) {
            sound.unsetInputs();
            for (int i = 0; i < MOST_ROWS && first + i < cubeRows; i++) {
                int set = rowSet[first + i];
                int ones = rowOnes[first + i];
                for (int input = 0; input < inputs; input++) {
                    sound.setInput(input, (long) bitOf(ones, input) << i, (long) bitOf(set & ~ones, input) << i);
                }
            }
            stuck.copyInputs(sound);
        }

        private void improveCube(int fault, int first, long caught) {
            for (int i = 0; i < MOST_ROWS && first + i < cubeRows; i++) {
                int size = Integer.bitCount(rowSet[first + i]);
                if ((caught >>> i & 1) == 1 && size < cubeSizes[fault]) {
                    cubeSizes[fault] = size;
                    cubeSet[fault] = rowSet[first + i];
                    cubeOnes[fault] = rowOnes[first + i];
                }
            }
        }
    }

    /** THE PROGRAM, and the ORDER of a CHAIN for it. */
    private static final class Program {
        final int[] patterns = new int[MOST_FAULTS];
        final int[] catches = new int[MOST_FAULTS];
        final int[] merged = new int[MOST_FAULTS];
        int size;
        boolean built;
        private long builtForDone;
        private int builtForFilling;
        private int mergedSet;
        private int mergedOnes;
        final int[] best = new int[MOST_INPUTS];
        private final int[] tried = new int[MOST_INPUTS];
        private final int[][] apart = new int[MOST_INPUTS][MOST_INPUTS];

        void build(Net net, Catalog catalog, long done, int filling) {
            if (built && builtForDone == done && builtForFilling == filling) {
                return;
            }
            built = true;
            builtForDone = done;
            builtForFilling = filling;
            size = 0;
            long open = catalog.found & ~done;
            while (open != 0 && size < MOST_FAULTS) {
                merged[size] = mergeCubes(catalog, open);
                int pattern = fillUp(net, filling);
                long caught = catalog.caughtBy(pattern) & open;
                patterns[size] = pattern;
                catches[size] = Long.bitCount(caught);
                open &= ~caught;
                size++;
            }
        }

        /** Merges the CUBES of open FAULTS; how many were. */
        private int mergeCubes(Catalog catalog, long open) {
            mergedSet = 0;
            mergedOnes = 0;
            int count = 0;
            for (int fault = 0; fault < catalog.faults; fault++) {
                int both = mergedSet & catalog.cubeSet[fault];
                boolean agrees = ((mergedOnes ^ catalog.cubeOnes[fault]) & both) == 0;
                if ((open >>> fault & 1) == 1 && agrees) {
                    mergedSet |= catalog.cubeSet[fault];
                    mergedOnes |= catalog.cubeOnes[fault];
                    count++;
                }
            }
            return count;
        }

        private int fillUp(Net net, int filling) {
            int all = (1 << net.inputs) - 1;
            if (filling == 1) {
                return mergedOnes | all & ~mergedSet;
            }
            int pattern = mergedOnes;
            if (filling == 2) {
                for (int chain = 0; chain < net.chains; chain++) {
                    pattern = fillChain(net, chain, pattern);
                }
            }
            return pattern;
        }

        private int fillChain(Net net, int chain, int pattern) {
            int filled = pattern;
            int ahead = firstSet(net, chain);
            for (int i = 0; i < net.cellCounts[chain]; i++) {
                int cell = net.cells[chain][i];
                if (bitOf(mergedSet, cell) == 1) {
                    ahead = bitOf(mergedOnes, cell);
                }
                filled = withBit(filled, cell, ahead);
            }
            return filled;
        }

        private int firstSet(Net net, int chain) {
            for (int i = 0; i < net.cellCounts[chain]; i++) {
                int cell = net.cells[chain][i];
                if (bitOf(mergedSet, cell) == 1) {
                    return bitOf(mergedOnes, cell);
                }
            }
            return 0;
        }

        int costOfPattern(Net net, int pattern) {
            int cost = 0;
            for (int chain = 0; chain < net.chains; chain++) {
                for (int k = 1; k < net.cellCounts[chain]; k++) {
                    int cell = net.cells[chain][k - 1];
                    int next = net.cells[chain][k];
                    cost += bitOf(pattern, cell) != bitOf(pattern, next) ? k : 0;
                }
            }
            return cost;
        }

        /** Finds the ORDER of a CHAIN; what it COSTS. */
        int arrange(Net net, int chain) {
            countApart(net.inputs);
            int cells = listCells(net, chain);
            int least = costOfTried(cells);
            keepTried(cells);
            // 720 orders of 6 CELLS are all there can be
            for (int i = 0; i < 720 && stepTried(cells); i++) {
                int cost = costOfTried(cells);
                if (cost < least) {
                    least = cost;
                    keepTried(cells);
                }
            }
            return least;
        }

        /** For two INPUTS, by how many PATTERNS they are to be different numbers. */
        private void countApart(int inputs) {
            for (int one = 0; one < inputs; one++) {
                for (int other = 0; other < inputs; other++) {
                    apart[one][other] = 0;
                    for (int i = 0; i < size; i++) {
                        apart[one][other] += bitOf(patterns[i], one) ^ bitOf(patterns[i], other);
                    }
                }
            }
        }

        private int listCells(Net net, int chain) {
            int cells = 0;
            for (int input = 0; input < net.inputs; input++) {
                if (net.chainOf[input] == chain) {
                    tried[cells] = input;
                    cells++;
                }
            }
            return cells;
        }

        private int costOfTried(int cells) {
            int cost = 0;
            for (int k = 1; k < cells; k++) {
                cost += k * apart[tried[k - 1]][tried[k]];
            }
            return cost;
        }

        private void keepTried(int cells) {
            for (int i = 0; i < cells; i++) {
                best[i] = tried[i];
            }
        }

        /** The next order by numbers of INPUTS; false behind the last one. */
        private boolean stepTried(int cells) {
            int fall = cells - 2;
            while (fall >= 0 && tried[fall] > tried[fall + 1]) {
                fall--;
            }
            if (fall < 0) {
                return false;
            }
            int greater = cells - 1;
            while (greater > fall && tried[greater] < tried[fall]) {
                greater--;
            }
            swapTried(fall, greater);
            for (int low = fall + 1, high = cells - 1; low < high; low++, high--) {
                swapTried(low, high);
            }
            return true;
        }

        private void swapTried(int one, int other) {
            int was = tried[one];
            tried[one] = tried[other];
            tried[other] = was;
        }
    }

    /** PACKS of the PICKED. */
    private static final class Packs {
        final int[] groups = new int[MOST_PICKED];

        /** Finds the PACKS; how many groups. */
        int arrange(Catalog catalog, State state) {
            for (int limit = 0; limit < state.picks; limit++) {
                if (fitInto(catalog, state, limit)) {
                    return limit;
                }
            }
            // as many groups as PICKED always do
            fitInto(catalog, state, state.picks);
            return state.picks;
        }

        /** The first row of at most so many groups, by going back where none is left. */
        private boolean fitInto(Catalog catalog, State state, int limit) {
            int at = 0;
            if (state.picks > 0) {
                groups[0] = NONE;
            }
            for (int step = 0; step < 1000000 && at >= 0 && at < state.picks; step++) {
                groups[at] = nextGroup(catalog, state, at, limit);
                if (groups[at] == NONE) {
                    at--;
                } else {
                    at++;
                    if (at < state.picks) {
                        groups[at] = NONE;
                    }
                }
            }
            return at == state.picks;
        }

        private int nextGroup(Catalog catalog, State state, int at, int limit) {
            int unused = 0;
            for (int i = 0; i < at; i++) {
                unused = Math.max(unused, groups[i] + 1);
            }
            for (int group = groups[at] + 1; group <= unused && group < limit; group++) {
                if (agreesWith(catalog, state, at, group)) {
                    return group;
                }
            }
            return NONE;
        }

        private boolean agreesWith(Catalog catalog, State state, int at, int group) {
            int fault = state.picked[at];
            for (int i = 0; i < at; i++) {
                int other = state.picked[i];
                int both = catalog.cubeSet[fault] & catalog.cubeSet[other];
                int unlike = catalog.cubeOnes[fault] ^ catalog.cubeOnes[other];
                if (groups[i] == group && (unlike & both) != 0) {
                    return false;
                }
            }
            return true;
        }
    }

    /** All that ACTS change. */
    private static final class State {
        int inputs;
        int cycles;
        int defect = NONE;
        int filling;
        /** FAULTS that are DONE, a bit each. */
        long done;
        int picks;
        final int[] picked = new int[MOST_PICKED];

        void begin(int filling) {
            inputs = 0;
            cycles = 0;
            defect = NONE;
            this.filling = filling;
            done = 0;
            picks = 0;
        }

        void copyFrom(State other) {
            inputs = other.inputs;
            cycles = other.cycles;
            defect = other.defect;
            filling = other.filling;
            done = other.done;
            picks = other.picks;
            for (int i = 0; i < MOST_PICKED; i++) {
                picked[i] = other.picked[i];
            }
        }

        int shiftCells(Net net, int in) {
            int out = 0;
            for (int chain = 0; chain < net.chains; chain++) {
                int carried = bitOf(in, chain);
                for (int i = 0; i < net.cellCounts[chain]; i++) {
                    int cell = net.cells[chain][i];
                    int had = bitOf(inputs, cell);
                    inputs = withBit(inputs, cell, carried);
                    carried = had;
                }
                out |= carried << chain;
            }
            cycles++;
            return out;
        }

        void takeLines(Net net, Catalog catalog) {
            inputs = catalog.inputsTaken(net, inputs, defect);
            cycles++;
        }

        int loadRow(Net net, int row) {
            int took = net.longestChain();
            inputs = row;
            cycles += took;
            return took;
        }

        int applyInputs(Catalog catalog) {
            long fresh = catalog.caughtBy(inputs) & ~done;
            done |= fresh;
            return Long.bitCount(fresh);
        }

        boolean canPick(int fault) {
            for (int i = 0; i < picks; i++) {
                if (picked[i] == fault) {
                    return false;
                }
            }
            return picks < MOST_PICKED;
        }

        int addPick(int fault) {
            picked[picks] = fault;
            picks++;
            return picks;
        }
    }

    /** All that AN IMAGE keeps. */
    private static final class Session {
        final State state = new State();
        private final State[] earlier = new State[MOST_ACTS];
        private int oldest;
        int acts;
        final int[] noteRows = new int[MOST_NOTED];
        final int[] noteLines = new int[MOST_NOTED];
        final int[] noteValues = new int[MOST_NOTED];
        int notes;
        final int[] refused = new int[3];

        Session() {
            for (int i = 0; i < MOST_ACTS; i++) {
                earlier[i] = new State();
            }
        }

        /** STATUS stays as it is. */
        void begin(int filling) {
            state.begin(filling);
            oldest = 0;
            acts = 0;
            notes = 0;
        }

        void copyFrom(Session other) {
            state.copyFrom(other.state);
            for (int i = 0; i < MOST_ACTS; i++) {
                earlier[i].copyFrom(other.earlier[i]);
            }
            oldest = other.oldest;
            acts = other.acts;
            for (int i = 0; i < MOST_NOTED; i++) {
                noteRows[i] = other.noteRows[i];
                noteLines[i] = other.noteLines[i];
                noteValues[i] = other.noteValues[i];
            }
            notes = other.notes;
            for (int i = 0; i < refused.length; i++) {
                refused[i] = other.refused[i];
            }
        }

        void refuse(int what) {
            refused[what]++;
        }

        /** To be called ahead of what an ACT changes. */
        void keepState() {
            earlier[(oldest + acts) % MOST_ACTS].copyFrom(state);
            if (acts < MOST_ACTS) {
                acts++;
            } else {
                oldest = (oldest + 1) % MOST_ACTS;
            }
        }

        int undoLast() {
            if (acts == 0) {
                return NONE;
            }
            acts--;
            state.copyFrom(earlier[(oldest + acts) % MOST_ACTS]);
            return acts;
        }

        int addNote(int row, int line, int v) {
            noteRows[notes] = row;
            noteLines[notes] = line;
            noteValues[notes] = v;
            notes++;
            return notes;
        }
    }

    /** What FITS what is NOTED, and where to LOOK NEXT. */
    private static final class Diagnosis {
        /** FITS, and behind them NONE, if it would be so without any. */
        final int[] suspects = new int[MOST_FAULTS + 1];
        int fitting;
        boolean soundFits;
        int row;
        int unlike;
        private final int[] counts = new int[MOST_ROWS];

        void gather(Catalog catalog, Session session) {
            fitting = 0;
            for (int fault = 0; fault < catalog.faults; fault++) {
                if (isSo(catalog, session, fault)) {
                    suspects[fitting] = fault;
                    fitting++;
                }
            }
            soundFits = isSo(catalog, session, NONE);
            if (soundFits) {
                suspects[fitting] = NONE;
            }
        }

        private boolean isSo(Catalog catalog, Session session, int fault) {
            for (int i = 0; i < session.notes; i++) {
                if (catalog.tell(fault, session.noteLines[i], session.noteRows[i]) != session.noteValues[i]) {
                    return false;
                }
            }
            return true;
        }

        void seekRow(Net net, Catalog catalog) {
            countUnlike(net, catalog);
            row = NONE;
            unlike = 0;
            for (int i = 0; i < catalog.rows; i++) {
                if (counts[i] > unlike) {
                    row = i;
                    unlike = counts[i];
                }
            }
        }

        private void countUnlike(Net net, Catalog catalog) {
            for (int i = 0; i < MOST_ROWS; i++) {
                counts[i] = 0;
            }
            int all = soundFits ? fitting + 1 : fitting;
            for (int i = 0; i < all; i++) {
                long fresh = catalog.allRows();
                for (int j = 0; j < i && fresh != 0; j++) {
                    fresh &= catalog.unlike(net, suspects[i], suspects[j]);
                }
                for (int r = 0; r < catalog.rows; r++) {
                    counts[r] += (int) (fresh >>> r) & 1;
                }
            }
        }
    }
}
