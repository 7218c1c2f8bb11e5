/** Part 2 of the document and promises 5 to 15: each sentence that names an edge, at it, inside of it and outside. */
final class NetEdges {
    private static final int MOST = Integer.MAX_VALUE;
    private static final int LEAST = Integer.MIN_VALUE;
    /** 22 LINES: g is nand of a and b, then each the other one of the one ahead; the last one is SEEN. */
    private static final String WIDEST = "in a b c d e f;g=nand a b;" + nots() + "see xo;";
    /** x, y, z and what they aren't; each of the eight GATES is 1 by one ROW alone. */
    private static final String EIGHT = "in x y z;m=not x;n=not y;o=not z;ga=and m n o;gb=and x n o;gc=and m y o;"
        + "gd=and x y o;ge=and m n z;gf=and x n z;gg=and m y z;gh=and x y z;see ga gb gc gd ge gf gg gh;";

    private NetEdges() {
    }

    static void all() {
        rowsAreOfAllInputs();
        gatesOfUnset();
        xorOfOneLineTwice();
        faultsAreTwoOfALine();
        inputsThatStick();
        caughtBySeenLines();
        whyLost();
        testsFromOneToAll();
        cubesOfOneToSix();
        alikeAndUnder();
        agreeOnUnset();
        filledChains();
        filledWithoutChains();
        noPatterns();
        costOfCells();
        orderOfCells();
        groupsOfPicked();
        groupsAsPicked();
        doneOfEachFault();
        countOfWhat();
        countsAtTheirEnds();
        lineOfWhat();
        lettersOfALine();
        cellsOfAChain();
        testOfWhat();
        rowOfMany();
        cubeOfInputs();
        byOfRows();
        byRefusedInOrder();
        programOfWhat();
        orderOfMany();
        packOfMany();
    }

    private static String nots() {
        StringBuilder text = new StringBuilder();
        for (char c = 'a'; c <= 'o'; c++) {
            text.append('x').append(c).append("=not ").append(c == 'a' ? "g" : "x" + (char) (c - 1)).append(';');
        }
        return text.toString();
    }

    private static String inputs(int n) {
        return "in" + " a b c d e f".substring(0, 2 * n) + ";";
    }

    /** "A ROW is of all INPUTS": with one INPUT 2 and 3 ROWS, with six 64 and 729; without any one. */
    private static void rowsAreOfAllInputs() {
        int all = 1;
        int unset = 1;
        for (int n = 1; n <= 6; n++) {
            all *= 2;
            unset *= 3;
            ScanPacker x = Texts.of(inputs(n) + "see a;");
            int last = all - 1;
            int lastUnset = unset - 1;
            Check.due("load() of the last of " + all, () -> x.load(last), 0);
            Check.due("INPUTS", () -> x.count(9), last);
            Check.due("load() behind it", () -> x.load(last + 1), -1);
            Check.due("load(0)", () -> x.load(0), 0);
            Check.due("load(-1)", () -> x.load(-1), -1);
            Check.due("note() of the last", () -> x.note(last, 0, 1), 1);
            Check.due("note() behind it", () -> x.note(last + 1, 0, 1), -1);
            Check.due("by() of the last of " + unset, () -> x.by(lastUnset, -1, 0), 2);
            Check.illegal("by() behind it", () -> x.by(lastUnset + 1, -1, 0));
            Check.due("by(0)", () -> x.by(0, -1, 0), 0);
            Check.illegal("by(-1)", () -> x.by(-1, -1, 0));
        }
        ScanPacker x = new ScanPacker();
        Check.due("load(0), no INPUTS", () -> x.load(0), 0);
        Check.due("load(1), no INPUTS", () -> x.load(1), -1);
        Check.due("ROW 0, which is the only one", () -> x.look(0), 0);
    }

    private static int due(int kind, int... is) {
        boolean zero = false;
        boolean one = false;
        boolean unset = false;
        int odd = 0;
        for (int v : is) {
            zero |= v == 0;
            one |= v == 1;
            unset |= v == 2;
            odd += v;
        }
        switch (kind) {
            case 1: return zero ? 0 : unset ? 2 : 1;
            case 2: return one ? 1 : unset ? 2 : 0;
            case 3: return unset ? 2 : odd % 2;
            case 4: return zero ? 1 : unset ? 2 : 0;
            default: return one ? 0 : unset ? 2 : 1;
        }
    }

    /** "What LINES are by a ROW": each KIND of one to three LINES, each 0, 1, UNSET. */
    private static void gatesOfUnset() {
        String[] kinds = {"not", "and", "or", "xor", "nand", "nor"};
        ScanPacker n = Texts.of("in a;g=not a;");
        Check.due("not of 0", () -> n.by(0, -1, 1), 1);
        Check.due("not of 1", () -> n.by(1, -1, 1), 0);
        Check.due("not of UNSET", () -> n.by(2, -1, 1), 2);
        for (int kind = 1; kind < 6; kind++) {
            ScanPacker x = Texts.of("in a b c;g=" + kinds[kind] + " a b;h=" + kinds[kind] + " a b c;");
            for (int row = 0; row < 27; row++) {
                int r = row;
                Check.due(kinds[kind] + " of two by " + row, () -> x.by(r, -1, 3), due(kind, r % 3, r / 3 % 3));
                Check.due(kinds[kind] + " of three by " + row, () -> x.by(r, -1, 4), due(kind, r % 3, r / 3 % 3, r / 9));
            }
        }
    }

    /** "xor: UNSET if any is, else whether an odd number is 1": also where both are one LINE, and 0 whatever it is. */
    private static void xorOfOneLineTwice() {
        ScanPacker x = Texts.of("in a b;g=xor a a;h=xor a b a;k=xor b b b;see g h k;");
        for (int row = 0; row < 9; row++) {
            int r = row;
            int a = row % 3;
            int b = row / 3;
            Check.due("xor a a by " + row, () -> x.by(r, -1, 2), a == 2 ? 2 : 0);
            Check.due("xor a b a by " + row, () -> x.by(r, -1, 3), a == 2 ? 2 : b);
            Check.due("xor b b b by " + row, () -> x.by(r, -1, 4), b);
        }
        Check.due("g at 1: CAUGHT by all ROWS", () -> x.test(5, 0), 4);
        Check.due("its CUBE sets a all the same", () -> x.test(5, 5) * 10 + x.cube(5, 0), 10);
    }

    /** "A FAULT f is of LINE f / 2, that STICKS at f MOD 2": the first ones, the last ones. */
    private static void faultsAreTwoOfALine() {
        ScanPacker x = Texts.of(WIDEST);
        Check.due("FAULTS", () -> x.count(5), 44);
        int[] faults = {0, 1, 2, 11, 12, 13, 41, 42, 43};
        for (int fault : faults) {
            for (int line = 0; line < 22; line++) {
                int at = line;
                boolean sticks = line == fault / 2;
                int odd = fault % 2;
                if (sticks) {
                    Check.due("by(0, " + fault + ", " + line + ")", () -> x.by(0, fault, at), odd);
                    Check.due("by(728, " + fault + ", " + line + ")", () -> x.by(728, fault, at), odd);
                } else if (line < 6 || line < fault / 2) {
                    Check.due("by(0, " + fault + ", " + line + ")", () -> x.by(0, fault, at), line < 6 ? 0 : 1 - line % 2);
                }
            }
            Check.due("defect(" + fault + ")", () -> x.defect(fault) < -1 ? 1 : 0, 0);
            Check.due("its LINE", () -> x.line(fault / 2, 6), fault % 2);
        }
        Check.noSuch("defect(44)", () -> x.defect(44));
        Check.due("the last one FITS", () -> x.fits(43), 43);
    }

    /** "(an INPUT, too: for GATES, and where it is SEEN)". */
    private static void inputsThatStick() {
        ScanPacker x = Texts.of("in a b;g=and a b;see a;");
        Check.due("a at 1, where it is SEEN", () -> x.by(0, 1, 0), 1);
        Check.due("a at 1, for GATES", () -> x.by(3, 1, 2), 1);
        Check.due("a at 0, for GATES", () -> x.by(4, 0, 2), 0);
        Check.due("a at 1 is CAUGHT", () -> x.test(1, 0), 2);
        Check.due("b at 1 isn't: g isn't SEEN", () -> x.test(3, 0), 0);
    }

    /** "It is CAUGHT by a ROW, if a SEEN LINE is 0 or 1 without it, and the other one with it". */
    private static void caughtBySeenLines() {
        ScanPacker none = Texts.of("in a b;g=and a b;");
        for (int fault = 0; fault < 6; fault++) {
            int f = fault;
            Check.due("nothing is SEEN: test(" + fault + ", 0)", () -> none.test(f, 0), 0);
            Check.due("nothing is SEEN: test(" + fault + ", 1)", () -> none.test(f, 1), 2);
        }
        // g is UNSET without it by a alone, so that no CUBE of g sets one INPUT but to 0
        ScanPacker x = Texts.of("in a b;g=and a b;see g;");
        Check.due("g at 0 sets both", () -> x.test(4, 5), 2);
        Check.due("g at 1 sets one", () -> x.test(5, 5), 1);
        Check.due("to 0", () -> x.cube(5, 0), 0);
        Check.due("b is UNSET", () -> x.cube(5, 1), 2);
        // with a at 1, g is UNSET while b is
        Check.due("a at 1 sets both", () -> x.test(1, 5), 2);
        ScanPacker taken = Texts.of("in a b;chain a;take a b;");
        Check.due("a LINE that is TAKEN is SEEN", () -> taken.test(2, 0), 2);
        Check.due("the CELL isn't", () -> taken.test(0, 1), 2);
    }

    /** "because 1: its LINE is always what it STICKS at; 2: else". */
    private static void whyLost() {
        ScanPacker x = Texts.of("in a b;n=not a;z=and a n;o=or a n;w=xor z o;see b;");
        // a, n aren't SEEN; z is always 0, o and w always 1
        int[] why = {2, 2, 0, 0, 2, 2, 1, 2, 2, 1, 2, 1};
        for (int fault = 0; fault < 12; fault++) {
            int f = fault;
            Check.due("test(" + fault + ", 1)", () -> x.test(f, 1), why[f]);
        }
        Check.due("LOST", () -> x.count(6), 10);
    }

    /** "how many TESTS": none, one, half of all, all but one, all. */
    private static void testsFromOneToAll() {
        ScanPacker x = Texts.of("in a b c d e f;h=or a b c;k=or d e f;g=or h k;n=not a;o=or a n;see g o f;");
        int[][] due = {{16, 63}, {17, 1}, {10, 32}, {20, 64}, {21, 0}, {0, 1}, {18, 32}, {19, 0}};
        for (int[] each : due) {
            int fault = each[0];
            Check.due("test(" + fault + ", 0)", () -> x.test(fault, 0), each[1]);
            if (each[1] > 0) {
                Check.due("the last one, row(" + fault + ", ..)", () -> x.row(fault, each[1] - 1) >= 0 ? 1 : 0, 1);
            }
            Check.noSuch("behind the last one, row(" + fault + ", ..)", () -> x.row(fault, each[1]));
        }
        Check.due("all but 0: the first", () -> x.row(16, 0), 1);
        Check.due("all but 0: the last", () -> x.row(16, 62), 63);
        Check.due("0 alone", () -> x.row(17, 0), 0);
        Check.due("all: the first", () -> x.row(20, 0), 0);
        Check.due("all: the last", () -> x.row(20, 63), 63);
        Check.due("its CUBE sets one", () -> x.test(20, 5), 1);
    }

    /** "Its CUBE: .. the one of fewest INPUTS set; of like ones the first": of one INPUT to all six. */
    private static void cubesOfOneToSix() {
        String[] texts = {"see a;", "g=xor a b;see g;", "g=xor a b c;see g;", "g=xor a b c;h=xor g d;see h;",
            "g=xor a b c;h=xor g d e;see h;", "g=xor a b c;h=xor g d e;k=xor h f;see k;"};
        for (int n = 1; n <= 6; n++) {
            ScanPacker x = Texts.of("in a b c d e f;" + texts[n - 1]);
            int sets = n;
            int lastAt1 = x.count(5) - 1;
            int last = n == 1 ? 1 : lastAt1;
            Check.due("CUBE of " + n, () -> x.test(last, 5), sets);
            for (int input = 0; input < 6; input++) {
                int at = input;
                Check.due("its INPUT " + input, () -> x.cube(last, at), at < sets ? 0 : 2);
            }
            Check.due("the other one's first", () -> x.cube(last - 1, 0), n == 1 ? 1 : 0);
            Check.due("the other one's last", () -> x.cube(last - 1, sets - 1), 1);
        }
        ScanPacker y = Texts.of("in a b c;g=or a b c;h=and a b c;see g h;");
        Check.due("0 ahead of UNSET", () -> y.cube(9, 0) * 100 + y.cube(9, 1) * 10 + y.cube(9, 2), 22);
        Check.due("1 ahead of UNSET", () -> y.cube(6, 0) * 100 + y.cube(6, 1) * 10 + y.cube(6, 2), 122);
    }

    /** "FAULTS are ALIKE, if they have the same TESTS; f is UNDER g, if .. g has others (f isn't LOST)". */
    private static void alikeAndUnder() {
        ScanPacker x = Texts.of("in a b c;g=and a b;h=not g;see h;");
        // TESTS: g at 0, h at 1, a at 0, b at 0: 3, 7; c is LOST; a at 1: 2, 6; b at 1: 1, 5; g at 1: all others
        int[] alike = {0, 1, 0, 3, 4, 4, 0, 7, 7, 0};
        int[] under = {0, 2, 0, 2, 0, 0, 0, 0, 0, 0};
        for (int fault = 0; fault < 10; fault++) {
            int f = fault;
            Check.due("test(" + fault + ", 2)", () -> x.test(f, 2), alike[f]);
            Check.due("test(" + fault + ", 3)", () -> x.test(f, 3), under[f]);
        }
        Check.due("groups", () -> x.count(7), 4);
        ScanPacker lost = Texts.of("in a b;");
        for (int fault = 0; fault < 4; fault++) {
            int f = fault;
            Check.due("LOST ones are ALIKE", () -> lost.test(f, 2), 0);
            Check.due("LOST ones are UNDER none", () -> lost.test(f, 3), 0);
        }
        Check.due("no groups", () -> lost.count(7), 0);
        ScanPacker after = Texts.of("in a b;see b;");
        Check.due("LOST ones behind others are UNDER none", () -> after.test(0, 3) + after.test(1, 3), 0);
        Check.due("those aren't ALIKE", () -> after.test(2, 2) * 10 + after.test(3, 2), 23);
    }

    /** "ROWS AGREE, if no INPUT is 0 in one and 1 in another one": 0 and 0, 1 and 1, UNSET and either; not 0 and 1. */
    private static void agreeOnUnset() {
        ScanPacker x = Texts.of("in a b;see a b;");
        int[][] groups = {{0, 2, 1}, {0, 3, 1}, {1, 2, 1}, {1, 3, 1}, {0, 1, 2}, {2, 3, 2}};
        for (int[] each : groups) {
            x.pick(-1);
            x.pick(each[0]);
            x.pick(each[1]);
            Check.due("groups of " + each[0] + ", " + each[1], () -> x.pack(-1), each[2]);
        }
        ScanPacker y = Texts.of("in a b c;g=and a b;h=and a c;k=nor a b;see g h k;");
        int[][] more = {{6, 8, 1}, {6, 10, 2}, {8, 10, 2}};
        for (int[] each : more) {
            y.pick(-1);
            y.pick(each[0]);
            y.pick(each[1]);
            Check.due("groups of " + each[0] + ", " + each[1], () -> y.pack(-1), each[2]);
        }
    }

    private static void pattern(String text, int i, int... byFill) {
        ScanPacker x = Texts.of(text);
        for (int fill = 0; fill < 3; fill++) {
            x.fill(fill);
            Check.due("[" + text + "] by FILL " + fill, () -> x.program(i, 0), byFill[fill]);
        }
    }

    /** "by 2, along each CHAIN from its first CELL on, what the CELL ahead is (the first one: ..; all UNSET: 0), PINS 0". */
    private static void filledChains() {
        pattern("in a b c d e f;chain a b c;see f;", 0, 32, 63, 32);
        pattern("in a b c d e f;chain a b c;see a;", 0, 1, 63, 7);
        pattern("in a b c d e f;chain a b c;see a;", 1, 0, 62, 0);
        pattern("in a b c d e f;chain a b c;see b;", 0, 2, 63, 7);
        pattern("in a b c d e f;chain a b c;see c;", 0, 4, 63, 7);
        pattern("in a b c d e f;chain a b c;see c;", 1, 0, 59, 0);
        pattern("in a b c d e f;chain a b c;chain d e;see c;", 0, 4, 63, 7);
        pattern("in a b c d e f;chain a b c;chain d e;see d;", 0, 8, 63, 24);
        pattern("in a b c d e f;chain c;see c;", 0, 4, 63, 4);
        // a is to be 0 and e 1 in the second one: b, c and d go with a, f with e
        pattern("in a b c d e f;chain a b c d e f;n=not a;g=and n e;see g;", 1, 16, 62, 48);
        // b is to be 1 and e 0: a, c and d go with b
        pattern("in a b c d e f;chain a b c d e f;n=not e;g=and n b;see g;", 0, 2, 47, 15);
        pattern("in a b c d e f;chain f e d c b a;n=not e;g=and n b;see g;", 0, 2, 47, 3);
    }

    /** "PINS 0": where there are no CELLS, too; but for what is set in a PIN. */
    private static void filledWithoutChains() {
        pattern("in a b c;see b;", 0, 2, 7, 2);
        pattern("in a b c;see b;", 1, 0, 5, 0);
        pattern("in a b c;g=and a c;see g;", 0, 5, 7, 5);
        pattern("in a b c;chain b;see c;", 0, 4, 7, 4);
        pattern("in a b c;chain b;see c;", 1, 0, 3, 0);
        // c, a PIN, stands behind the last CELL: nothing comes along to it
        pattern("in a b c;chain a b;see a;", 0, 1, 7, 3);
    }

    /** "As long as there is a FAULT that is neither LOST, DONE, nor CAUGHT by a PATTERN ahead": none. */
    private static void noPatterns() {
        ScanPacker x = Texts.of("in a b;chain a b;");
        Check.due("all LOST", () -> x.count(13), 0);
        Check.noSuch("program(0, 0)", () -> x.program(0, 0));
        Check.due("order(0, NONE)", () -> x.order(0, -1), 0);
        ScanPacker y = Texts.of("in a;see a;");
        Check.due("two", () -> y.count(13), 2);
        y.apply();
        Check.due("one", () -> y.count(13), 1);
        Check.due("it is 1", () -> y.program(0, 0), 1);
        Check.due("it CATCHES one", () -> y.program(0, 1), 1);
        Check.due("of one CUBE", () -> y.program(0, 3), 1);
        y.load(1);
        y.apply();
        Check.due("all DONE", () -> y.count(13), 0);
        Check.noSuch("program(0, 0)", () -> y.program(0, 0));
        y.undo();
        Check.due("one again", () -> y.count(13), 1);
    }

    /** "for each CELL but the last, k from 1 on: k, if the next CELL is to be another number". */
    private static void costOfCells() {
        String[] chains = {"a", "a b", "b a", "a b c", "c b a", "b a c", "c d e f a b", "a c b d e f"};
        int[] due = {0, 1, 1, 1, 2, 3, 9, 1};
        for (int i = 0; i < chains.length; i++) {
            // the first PATTERN is a alone
            ScanPacker x = Texts.of("in a b c d e f;chain " + chains[i] + ";see a;");
            int cost = due[i];
            Check.due("COST of [" + chains[i] + "]", () -> x.program(0, 2), cost);
            Check.due("COST of zeros", () -> x.program(1, 2), 0);
        }
        ScanPacker x = Texts.of("in a b c d e f;chain b a;chain d c;see a c;");
        Check.due("in all CHAINS", () -> x.program(0, 2), 2);
        ScanPacker none = Texts.of("in a;see a;");
        Check.due("no CHAINS", () -> none.program(0, 2), 0);
    }

    /** "ORDER of a CHAIN: .. COST least in that CHAIN; of like ones the first": of one CELL to all six. */
    private static void orderOfCells() {
        ScanPacker one = Texts.of("in a b c d e f;chain d;see d;");
        Check.due("one CELL", () -> one.order(0, 0), 3);
        Check.due("one CELL, COST", () -> one.order(0, -1), 0);
        Check.noSuch("one CELL, behind it", () -> one.order(0, 1));
        ScanPacker two = Texts.of("in a b;chain b a;see a;");
        Check.due("two CELLS, the first of like ones", () -> two.order(0, 0) * 10 + two.order(0, 1), 1);
        Check.due("two CELLS, COST", () -> two.order(0, -1), 1);
        ScanPacker six = Texts.of("in a b c d e f;chain c f b e d a;see d;");
        int[] due = {3, 0, 1, 2, 4, 5};
        for (int i = 0; i < 6; i++) {
            int at = i;
            Check.due("six CELLS, order(0, " + i + ")", () -> six.order(0, at), due[i]);
        }
        Check.due("six CELLS, COST", () -> six.order(0, -1), 1);
        Check.noSuch("six CELLS, behind them", () -> six.order(0, 6));
    }

    /** "PICKED are FAULTS (at most 8 ..)", "the fewest groups": none of none, one of eight, eight of eight. */
    private static void groupsOfPicked() {
        ScanPacker x = Texts.of(EIGHT);
        Check.due("none", () -> x.pack(-1), 0);
        for (int i = 0; i < 8; i++) {
            int at = i;
            // ga is LINE 6: at 0, each is CAUGHT by its own ROW alone
            Check.due("pick(" + (12 + 2 * i) + ")", () -> x.pick(12 + 2 * at), i + 1);
            Check.due("groups", () -> x.pack(-1), i + 1);
            Check.due("each in one of its own", () -> x.pack(at), at);
            Check.noSuch("behind the last one", () -> x.pack(at + 1));
        }
        ScanPacker y = Texts.of("in a b c d;e=not a;f=not b;g=not c;h=not d;see a b c d e f g h;");
        int[] alike = {0, 9, 2, 11, 4, 13, 6, 15};
        for (int fault : alike) {
            y.pick(fault);
        }
        Check.due("eight are PICKED", () -> y.count(12), 8);
        Check.due("one group of eight", () -> y.pack(-1), 1);
        Check.due("the first one", () -> y.pack(0), 0);
        Check.due("the last one", () -> y.pack(7), 0);
        Check.noSuch("none behind it", () -> y.pack(8));
    }

    /** "the first such row of groups (of the first PICKED, the second ..)": as they were PICKED, not as they are numbered. */
    private static void groupsAsPicked() {
        ScanPacker x = Texts.of("in a b;see a b;");
        int[][] picks = {{3, 0, 1}, {0, 1, 3}, {1, 3, 0}, {3, 1, 0}};
        int[] due = {1, 10, 1, 1};
        for (int i = 0; i < picks.length; i++) {
            x.pick(-1);
            for (int fault : picks[i]) {
                x.pick(fault);
            }
            int groups = due[i];
            String what = picks[i][0] + ", " + picks[i][1] + ", " + picks[i][2];
            Check.due("two groups of " + what, () -> x.pack(-1), 2);
            Check.due("groups of " + what, () -> x.pack(0) * 100 + x.pack(1) * 10 + x.pack(2), groups);
        }
    }

    /** Promise 9: "4 whether it is DONE": of each FAULT up to the last one of 44. */
    private static void doneOfEachFault() {
        ScanPacker x = Texts.of(WIDEST.replace("see xo", "see e f xm xn xo"));
        x.load(32);
        x.apply();
        // e is 0 and f 1; without a and b: g 1, xa 0, .. xn 1, xo 0
        for (int fault = 0; fault < 44; fault++) {
            int f = fault;
            boolean sound = fault / 2 == 5 || fault / 2 >= 6 && fault / 2 % 2 == 0;
            boolean toldApart = fault / 2 >= 6 || fault / 2 == 4 || fault / 2 == 5;
            int due = toldApart && fault % 2 != (sound ? 1 : 0) ? 1 : 0;
            Check.due("DONE: test(" + fault + ", 4)", () -> x.test(f, 4), due);
        }
        Check.due("DONE", () -> x.count(8), 18);
    }

    /** Promise 5: "another what". */
    private static void countOfWhat() {
        ScanPacker x = Texts.of(NetTests.TWO_CHAINS);
        int[] others = {LEAST, -2, -1, 20, 21, MOST};
        for (int what : others) {
            Check.noSuch("count(" + what + ")", () -> x.count(what));
        }
        Check.due("count(0)", () -> x.count(0), 4);
        Check.due("count(1)", () -> x.count(1), 2);
        Check.due("count(18)", () -> x.count(18), 0);
        Check.due("count(19)", () -> x.count(19), 0);
    }

    private static void counts(ScanPacker x, int... due) {
        for (int what = 0; what < due.length; what++) {
            int w = what;
            Check.due("count(" + what + ") at its end", () -> x.count(w), due[what]);
        }
    }

    /** Promise 5: each count at 0 (NONE) and at the most that it can be. */
    private static void countsAtTheirEnds() {
        counts(new ScanPacker(), 0, 0, 0, 0, 0, 0, 0, 0, 0, 0, 0, -1, 0, 0, 0, 0, 0, 0, 0, 0);
        ScanPacker x = Texts.of(WIDEST + "see a b c d e f g" + " xa xb xc xd xe xf xg xh xi xj xk xl xm xn;fill 2;"
            + "chain a b c d;chain e;chain f;");
        // groups: two of each INPUT, two of all GATES; PATTERNS: 63 and 0
        counts(x, 6, 16, 22, 3, 2, 44, 0, 14, 0, 0, 0, -1, 0, 2, 0, 0, 0, 0, 0, 0);
        x.defect(43);
        x.load(63);
        x.apply();
        x.load(0);
        x.apply();
        x.load(63);
        for (int f = 0; f < 8; f++) {
            x.pick(f);
        }
        for (int i = 0; i < 12; i++) {
            x.note(63, 21, 0);
        }
        for (int i = 0; i < 50; i++) {
            x.take();
        }
        for (int i = 0; i < 46; i++) {
            x.feed(0, 0, 0, 0, 0);
        }
        counts(x, 6, 16, 22, 3, 2, 44, 0, 14, 44, 63, 62, 43, 8, 0, 40, 10, 900, 0, 0, 2);
        ScanPacker none = Texts.of(inputs(6) + "g=not a;" + nots());
        Check.due("nothing SEEN", () -> none.count(2), 0);
        Check.due("all LOST", () -> none.count(6), 44);
        Check.due("no groups", () -> none.count(7), 0);
    }

    /** Promise 6: "no such LINE (as everywhere), another what". */
    private static void lineOfWhat() {
        ScanPacker x = Texts.of(NetTests.TWO_CHAINS);
        int[] wrong = {LEAST, -1, 6, 7, MOST};
        for (int line : wrong) {
            for (int what = -1; what < 11; what++) {
                int w = what;
                Check.noSuch("line(" + line + ", " + what + ")", () -> x.line(line, w));
            }
        }
        int[] others = {LEAST, -1, 10, 11, MOST};
        for (int what : others) {
            Check.noSuch("line(0, " + what + ")", () -> x.line(0, what));
            Check.noSuch("line(5, " + what + ")", () -> x.line(5, what));
        }
        Check.due("the first LINE, the first what", () -> x.line(0, 0), -1);
        Check.due("the first LINE, the last what", () -> x.line(0, 9), 1);
        Check.due("the last LINE, the first what", () -> x.line(5, 0), 2);
        Check.due("the last LINE, the last what", () -> x.line(5, 9), 2);
        ScanPacker none = new ScanPacker();
        Check.noSuch("line(0, 0) of none", () -> none.line(0, 0));
    }

    /** Promise 7: "(0 on; 1 to 26)", "also there is none". */
    private static void lettersOfALine() {
        ScanPacker x = Texts.of("in a zzzzzz;zaz=not a;");
        Check.due("letter(0, 0)", () -> x.letter(0, 0), 1);
        Check.noSuch("letter(0, 1)", () -> x.letter(0, 1));
        Check.noSuch("letter(0, -1)", () -> x.letter(0, -1));
        Check.due("letter(1, 0)", () -> x.letter(1, 0), 26);
        Check.due("letter(1, 5)", () -> x.letter(1, 5), 26);
        Check.noSuch("letter(1, 6)", () -> x.letter(1, 6));
        Check.due("letter(2, 1)", () -> x.letter(2, 1), 1);
        Check.due("letter(2, 2)", () -> x.letter(2, 2), 26);
        Check.noSuch("letter(2, 3)", () -> x.letter(2, 3));
        Check.noSuch("letter(2, most)", () -> x.letter(2, MOST));
        Check.noSuch("letter(2, least)", () -> x.letter(2, LEAST));
        int[] wrong = {LEAST, -1, 3, MOST};
        for (int line : wrong) {
            Check.noSuch("letter(" + line + ", 0)", () -> x.letter(line, 0));
        }
    }

    /** Promise 8: "of i NONE how many", "no such CHAIN (as everywhere), there is none". */
    private static void cellsOfAChain() {
        ScanPacker x = Texts.of("in a b c d e f;chain f e d c;chain b;chain a;");
        int[] sizes = {4, 1, 1};
        int[] firsts = {5, 1, 0};
        int[] lasts = {2, 1, 0};
        for (int chain = 0; chain < 3; chain++) {
            int c = chain;
            Check.due("how many", () -> x.chain(c, -1), sizes[c]);
            Check.due("the first one", () -> x.chain(c, 0), firsts[c]);
            Check.due("the last one", () -> x.chain(c, sizes[c] - 1), lasts[c]);
            Check.noSuch("behind it", () -> x.chain(c, sizes[c]));
            Check.noSuch("chain(" + c + ", -2)", () -> x.chain(c, -2));
            Check.noSuch("chain(" + c + ", most)", () -> x.chain(c, MOST));
            Check.noSuch("chain(" + c + ", least)", () -> x.chain(c, LEAST));
        }
        int[] wrong = {LEAST, -1, 3, MOST};
        for (int chain : wrong) {
            Check.noSuch("chain(" + chain + ", NONE)", () -> x.chain(chain, -1));
            Check.noSuch("chain(" + chain + ", 0)", () -> x.chain(chain, 0));
        }
        ScanPacker none = Texts.of("in a;");
        Check.noSuch("no CHAINS", () -> none.chain(0, -1));
    }

    /** Promise 9: "no such FAULT (as everywhere), another what". */
    private static void testOfWhat() {
        ScanPacker x = Texts.of(NetTests.TWO_CHAINS);
        int[] wrong = {LEAST, -2, -1, 12, 13, 64, MOST};
        for (int fault : wrong) {
            for (int what = -1; what < 7; what++) {
                int w = what;
                Check.noSuch("test(" + fault + ", " + what + ")", () -> x.test(fault, w));
            }
        }
        int[] others = {LEAST, -1, 6, 7, MOST};
        for (int what : others) {
            Check.noSuch("test(0, " + what + ")", () -> x.test(0, what));
            Check.noSuch("test(11, " + what + ")", () -> x.test(11, what));
        }
        Check.due("the first FAULT, the first what", () -> x.test(0, 0), 4);
        Check.due("the last FAULT, the last what", () -> x.test(11, 5), 2);
        ScanPacker lost = Texts.of("in a;");
        Check.noSuch("a LOST one, another what", () -> lost.test(0, 6));
        Check.due("a LOST one, 5", () -> lost.test(0, 5), -1);
        Check.due("a LOST one, 4", () -> lost.test(0, 4), 0);
    }

    /** Promise 10: "also there is none". */
    private static void rowOfMany() {
        ScanPacker x = Texts.of(NetTests.TWO_CHAINS);
        Check.due("the first one", () -> x.row(8, 0) >= 0 ? 1 : 0, 1);
        Check.due("the last one", () -> x.row(8, 11) >= 0 ? 1 : 0, 1);
        int[] none = {LEAST, -2, -1, 12, 13, MOST};
        for (int i : none) {
            Check.noSuch("row(8, " + i + ")", () -> x.row(8, i));
        }
        int[] wrong = {LEAST, -1, 12, MOST};
        for (int fault : wrong) {
            Check.noSuch("row(" + fault + ", 0)", () -> x.row(fault, 0));
        }
        for (int i = 1; i < 12; i++) {
            int at = i;
            Check.due("rising", () -> x.row(8, at) > x.row(8, at - 1) ? 1 : 0, 1);
        }
    }

    /** Promise 11: "also it is LOST, no such INPUT". */
    private static void cubeOfInputs() {
        ScanPacker x = Texts.of("in a b;see b;");
        Check.due("cube(3, 0)", () -> x.cube(3, 0), 2);
        Check.due("cube(3, 1)", () -> x.cube(3, 1), 0);
        int[] none = {LEAST, -1, 2, MOST};
        for (int input : none) {
            Check.noSuch("cube(3, " + input + ")", () -> x.cube(3, input));
        }
        Check.noSuch("LOST", () -> x.cube(0, 0));
        Check.noSuch("LOST, the other one", () -> x.cube(1, 1));
        int[] wrong = {LEAST, -1, 4, MOST};
        for (int fault : wrong) {
            Check.noSuch("cube(" + fault + ", 0)", () -> x.cube(fault, 0));
        }
        ScanPacker gate = Texts.of("in a;g=not a;see g;");
        Check.noSuch("a GATE is no INPUT", () -> gate.cube(0, 1));
    }

    /** Promise 12: "told by numbers of 3 (0, 1, 2 UNSET; INPUT 0 the lowest)". */
    private static void byOfRows() {
        ScanPacker x = Texts.of(inputs(6));
        int number = 1;
        for (int input = 0; input < 6; input++) {
            for (int v = 0; v < 3; v++) {
                int row = number * v;
                int at = input;
                Check.due("by(" + row + ", NONE, " + input + ")", () -> x.by(row, -1, at), v);
                Check.due("its INPUT at 0", () -> x.by(row, 2 * at, at), 0);
                Check.due("its INPUT at 1", () -> x.by(row, 2 * at + 1, at), 1);
                int other = (input + 1) % 6;
                Check.due("another one", () -> x.by(row, -1, other), 0);
            }
            number *= 3;
        }
        Check.due("the last ROW", () -> x.by(728, -1, 5), 2);
        int[] none = {LEAST, -1, 729, MOST};
        for (int row : none) {
            Check.illegal("by(" + row + ", NONE, 0)", () -> x.by(row, -1, 0));
            Check.illegal("by(" + row + ", 11, 5)", () -> x.by(row, 11, 5));
        }
    }

    /** Promise 12: "no such FAULT", "IllegalArgumentException (behind that)". */
    private static void byRefusedInOrder() {
        ScanPacker x = Texts.of("in a b;g=and a b;");
        int[] noFault = {LEAST, -2, 6, MOST};
        int[] noLine = {LEAST, -1, 3, MOST};
        int[] rows = {0, 8, 9, -1};
        for (int row : rows) {
            for (int fault : noFault) {
                Check.noSuch("by(" + row + ", " + fault + ", 0)", () -> x.by(row, fault, 0));
            }
            for (int line : noLine) {
                Check.noSuch("by(" + row + ", NONE, " + line + ")", () -> x.by(row, -1, line));
                Check.noSuch("by(" + row + ", 5, " + line + ")", () -> x.by(row, 5, line));
                Check.noSuch("by(" + row + ", 6, " + line + ")", () -> x.by(row, 6, line));
            }
        }
        Check.illegal("by(9, 5, 2)", () -> x.by(9, 5, 2));
        Check.due("by(8, 5, 2)", () -> x.by(8, 5, 2), 1);
        Check.due("by(8, 4, 2)", () -> x.by(8, 4, 2), 0);
        Check.due("by(8, NONE, 2)", () -> x.by(8, -1, 2), 2);
        ScanPacker none = new ScanPacker();
        Check.noSuch("by(0, NONE, 0) without LINES", () -> none.by(0, -1, 0));
        Check.noSuch("by(1, NONE, 0) without LINES", () -> none.by(1, -1, 0));
    }

    /** Promise 13: "there is none, another what". */
    private static void programOfWhat() {
        ScanPacker x = Texts.of(NetTests.TWO_CHAINS);
        int[] none = {LEAST, -2, -1, 3, 4, MOST};
        for (int i : none) {
            for (int what = -1; what < 5; what++) {
                int w = what;
                Check.noSuch("program(" + i + ", " + what + ")", () -> x.program(i, w));
            }
        }
        int[] others = {LEAST, -1, 4, 5, MOST};
        for (int what : others) {
            Check.noSuch("program(0, " + what + ")", () -> x.program(0, what));
            Check.noSuch("program(2, " + what + ")", () -> x.program(2, what));
        }
        Check.due("the first, what 0", () -> x.program(0, 0), 11);
        Check.due("the last, what 3", () -> x.program(2, 3), 2);
    }

    /** Promise 14: "of i NONE the COST", "also there is none". */
    private static void orderOfMany() {
        ScanPacker x = Texts.of(NetTests.TWO_CHAINS);
        Check.due("the first", () -> x.order(0, 0), 0);
        Check.due("the last", () -> x.order(0, 1), 1);
        Check.due("the last CHAIN", () -> x.order(1, 0), 2);
        int[] none = {LEAST, -3, -2, 2, 3, MOST};
        for (int i : none) {
            Check.noSuch("order(0, " + i + ")", () -> x.order(0, i));
        }
        Check.noSuch("order(1, 1)", () -> x.order(1, 1));
        int[] wrong = {LEAST, -1, 2, MOST};
        for (int chain : wrong) {
            Check.noSuch("order(" + chain + ", NONE)", () -> x.order(chain, -1));
            Check.noSuch("order(" + chain + ", 0)", () -> x.order(chain, 0));
        }
    }

    /** Promise 15: "of i NONE how many groups", "there is none". */
    private static void packOfMany() {
        ScanPacker x = Texts.of("in a b;see a b;");
        int[] none = {LEAST, -3, -2, 0, 1, MOST};
        for (int i : none) {
            Check.noSuch("none PICKED: pack(" + i + ")", () -> x.pack(i));
        }
        Check.due("none PICKED: pack(NONE)", () -> x.pack(-1), 0);
        x.pick(0);
        Check.due("one PICKED: pack(NONE)", () -> x.pack(-1), 1);
        Check.due("one PICKED: pack(0)", () -> x.pack(0), 0);
        int[] others = {LEAST, -2, 1, MOST};
        for (int i : others) {
            Check.noSuch("one PICKED: pack(" + i + ")", () -> x.pack(i));
        }
    }
}
