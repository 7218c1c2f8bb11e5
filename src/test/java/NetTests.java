/** Promises 5 to 15: the NET, its FAULTS, THE PROGRAM, ORDER, PACKS. */
final class NetTests {
    /** LINES a 0, b 1, c 2, d 3, g 4, hh 5. */
    static final String TWO_CHAINS = "in a b c d;chain a b;chain c;g = nand a d;hh = or b c;"
        + "take b g;take c hh;see hh;fill 1;";
    /** LINES a 0 .. e 4, h 5, g 6: CUBES set b and d alone. */
    private static final String MIDDLE = "in a b c d e;chain a b c d e;h = not d;g = and b h;see g;fill 2;";

    private NetTests() {
    }

    static void all() {
        count();
        line();
        letter();
        chain();
        test();
        lost();
        row();
        cube();
        firstOfLikeCubes();
        kinds();
        by();
        program();
        filled();
        filledAlongChains();
        programOfTheRest();
        order();
        orderOfLikeOnes();
        pack();
        packOfMany();
        largest();
    }

    private static void counts(ScanPacker x, int... due) {
        for (int what = 0; what < due.length; what++) {
            int w = what;
            Check.due("count(" + what + ")", () -> x.count(w), due[what]);
        }
    }

    private static void count() {
        ScanPacker x = Texts.of(TWO_CHAINS);
        counts(x, 4, 2, 2, 2, 1, 12, 0, 8, 0, 0, 0, -1, 0, 3, 0, 0, 0, 0, 0, 0);
        x.load(9);
        x.apply();
        x.defect(7);
        x.pick(4);
        x.pick(8);
        x.fill(0);
        x.note(3, 5, 1);
        x.put(0, 0);
        x.shift(8);
        x.note(3, 0, 1);
        x.feed(0, 0, 0, 0, 0);
        counts(x, 4, 2, 2, 2, 0, 12, 0, 8, 6, 9, 2, 7, 2, 2, 6, 1, 20, 0, 2, 1);
        Check.noSuch("count(-1)", () -> x.count(-1));
        Check.noSuch("count(20)", () -> x.count(20));
        Check.noSuch("count(most)", () -> x.count(Integer.MAX_VALUE));
        Check.due("SEEN by both ways counts once", () -> Texts.of("in a;chain a;take a a;see a;").count(2), 1);
        Check.due("LOST aren't in groups", () -> Texts.of("in a b;see a;").count(7), 2);
        Check.due("LOST", () -> Texts.of("in a b;see a;").count(6), 2);
    }

    private static void lineIs(ScanPacker x, int line, int... due) {
        for (int what = 0; what < due.length; what++) {
            int w = what;
            Check.due("line(" + line + ", " + what + ")", () -> x.line(line, w), due[what]);
        }
    }

    private static void line() {
        ScanPacker x = Texts.of(TWO_CHAINS);
        lineIs(x, 0, -1, 0, -1, -1, -1, 0, 0, 0, -1, 1);
        lineIs(x, 1, -1, 0, -1, -1, -1, 0, 0, 0, 4, 1);
        lineIs(x, 2, -1, 0, -1, -1, -1, 0, 0, 1, 5, 1);
        lineIs(x, 3, -1, 0, -1, -1, -1, 0, 0, -1, -1, 1);
        lineIs(x, 4, 4, 2, 0, 3, -1, 1, 1, -1, -1, 1);
        lineIs(x, 5, 2, 2, 1, 2, -1, 1, 0, -1, -1, 2);
        lineIs(Texts.of("in a b;g = nor b a b;"), 2, 5, 3, 1, 0, 1, 0, 1, -1, -1, 1);
        lineIs(Texts.of("in a b;abcdef = not b;"), 2, 0, 1, 1, -1, -1, 0, 1, -1, -1, 6);
        x.defect(3);
        Check.due("an INPUT that STICKS", () -> x.line(1, 6), 1);
        Check.due("a GATE of it", () -> x.line(5, 6), 1);
        Check.due("what it has", () -> x.count(9), 0);
        Check.noSuch("line(6, 0)", () -> x.line(6, 0));
        Check.noSuch("line(-1, 0)", () -> x.line(-1, 0));
        Check.noSuch("line(0, 10)", () -> x.line(0, 10));
        Check.noSuch("line(0, -1)", () -> x.line(0, -1));
    }

    private static void letter() {
        ScanPacker x = Texts.of("in a zyxabc;mn = not a;");
        int[] due = {26, 25, 24, 1, 2, 3};
        for (int i = 0; i < 6; i++) {
            int at = i;
            Check.due("letter(1, " + i + ")", () -> x.letter(1, at), due[i]);
        }
        Check.due("letter(0, 0)", () -> x.letter(0, 0), 1);
        Check.due("letter(2, 0)", () -> x.letter(2, 0), 13);
        Check.due("letter(2, 1)", () -> x.letter(2, 1), 14);
        Check.noSuch("letter(2, 2)", () -> x.letter(2, 2));
        Check.noSuch("letter(1, 6)", () -> x.letter(1, 6));
        Check.noSuch("letter(1, -1)", () -> x.letter(1, -1));
        Check.noSuch("letter(3, 0)", () -> x.letter(3, 0));
        Check.noSuch("letter(-1, 0)", () -> x.letter(-1, 0));
    }

    private static void chain() {
        ScanPacker x = Texts.of("in a b c d e f;chain f a c;chain b;");
        Check.due("chain(0, NONE)", () -> x.chain(0, -1), 3);
        Check.due("chain(0, 0)", () -> x.chain(0, 0), 5);
        Check.due("chain(0, 1)", () -> x.chain(0, 1), 0);
        Check.due("chain(0, 2)", () -> x.chain(0, 2), 2);
        Check.due("chain(1, NONE)", () -> x.chain(1, -1), 1);
        Check.due("chain(1, 0)", () -> x.chain(1, 0), 1);
        Check.noSuch("chain(0, 3)", () -> x.chain(0, 3));
        Check.noSuch("chain(0, -2)", () -> x.chain(0, -2));
        Check.noSuch("chain(2, 0)", () -> x.chain(2, 0));
        Check.noSuch("chain(2, NONE)", () -> x.chain(2, -1));
        Check.noSuch("chain(-1, NONE)", () -> x.chain(-1, -1));
        Check.noSuch("chain(3, NONE)", () -> x.chain(3, -1));
    }

    private static void test() {
        ScanPacker x = Texts.of(TWO_CHAINS);
        int[] tests = {4, 4, 4, 4, 4, 4, 4, 4, 12, 4, 12, 4};
        int[] alike = {0, 1, 2, 3, 4, 3, 0, 7, 8, 0, 10, 3};
        int[] under = {0, 1, 1, 0, 1, 0, 0, 1, 0, 0, 0, 0};
        int[] sets = {2, 2, 2, 2, 2, 2, 2, 2, 1, 2, 1, 2};
        x.load(11);
        x.apply();
        for (int f = 0; f < 12; f++) {
            int fault = f;
            boolean done = f == 0 || f == 2 || f == 6 || f == 9 || f == 10;
            Check.due("test(" + f + ", 0)", () -> x.test(fault, 0), tests[f]);
            Check.due("test(" + f + ", 1)", () -> x.test(fault, 1), 0);
            Check.due("test(" + f + ", 2)", () -> x.test(fault, 2), alike[f]);
            Check.due("test(" + f + ", 3)", () -> x.test(fault, 3), under[f]);
            Check.due("test(" + f + ", 4)", () -> x.test(fault, 4), done ? 1 : 0);
            Check.due("test(" + f + ", 5)", () -> x.test(fault, 5), sets[f]);
        }
        ScanPacker y = Texts.of("in a b;g = and a b;see a g;");
        Check.due("UNDER the first", () -> y.test(2, 3), 1);
        Check.due("UNDER the first and the last", () -> y.test(3, 3), 2);
        Check.due("not UNDER a like one", () -> y.test(4, 3), 1);
        Check.noSuch("test(12, 0)", () -> x.test(12, 0));
        Check.noSuch("test(-1, 0)", () -> x.test(-1, 0));
        Check.noSuch("test(0, 6)", () -> x.test(0, 6));
        Check.noSuch("test(0, -1)", () -> x.test(0, -1));
    }

    /**
     * n is always the other one of a: g always 0, h always 1, also with a at 0 or 1 (n goes with it), k always 0.
     * So b can't be told, but n can: at 0 h is a, at 1 k is a and b.
     */
    private static void lost() {
        ScanPacker x = Texts.of("in a b;n = not a;g = and a n;h = or a n;k = and g b;see k h;");
        int[] why = {2, 2, 2, 2, 0, 0, 1, 0, 0, 1, 1, 0};
        for (int f = 0; f < 12; f++) {
            int fault = f;
            Check.due("LOST test(" + f + ", 1)", () -> x.test(fault, 1), why[f]);
            if (why[f] > 0) {
                Check.due("LOST test(" + f + ", 0)", () -> x.test(fault, 0), 0);
                Check.due("LOST test(" + f + ", 2)", () -> x.test(fault, 2), 0);
                Check.due("LOST test(" + f + ", 3)", () -> x.test(fault, 3), 0);
                Check.due("LOST test(" + f + ", 5)", () -> x.test(fault, 5), -1);
                Check.noSuch("LOST row(" + f + ", 0)", () -> x.row(fault, 0));
                Check.noSuch("LOST cube(" + f + ", 0)", () -> x.cube(fault, 0));
                Check.due("LOST pick(" + f + ")", () -> x.pick(fault), -1);
            }
        }
        Check.due("LOST: count(6)", () -> x.count(6), 7);
        Check.due("not LOST", () -> x.test(5, 0) * 10 + x.row(5, 0), 13);
    }

    private static void row() {
        ScanPacker x = Texts.of(TWO_CHAINS);
        int[] due = {9, 11, 13, 15};
        for (int i = 0; i < 4; i++) {
            int at = i;
            Check.due("row(0, " + i + ")", () -> x.row(0, at), due[i]);
        }
        Check.noSuch("row(0, 4)", () -> x.row(0, 4));
        Check.noSuch("row(0, -1)", () -> x.row(0, -1));
        Check.noSuch("row(12, 0)", () -> x.row(12, 0));
        Check.noSuch("row(-1, 0)", () -> x.row(-1, 0));
        ScanPacker y = Texts.of("in a b c d e f;see f;");
        Check.due("row(11, 31)", () -> y.row(11, 31), 31);
        Check.due("row(10, 0)", () -> y.row(10, 0), 32);
        Check.due("row(10, 31)", () -> y.row(10, 31), 63);
        Check.due("test(10, 0)", () -> y.test(10, 0), 32);
    }

    private static void cube() {
        ScanPacker x = Texts.of(TWO_CHAINS);
        String[] due = {"1221", "0221", "2102", "2002", "2012", "2002", "1221", "1220", "0222", "1221", "2122", "2002"};
        for (int f = 0; f < 12; f++) {
            for (int input = 0; input < 4; input++) {
                int fault = f;
                int at = input;
                Check.due("cube(" + f + ", " + at + ")", () -> x.cube(fault, at), due[f].charAt(at) - '0');
            }
        }
        Check.noSuch("cube(0, 4)", () -> x.cube(0, 4));
        Check.noSuch("cube(0, -1)", () -> x.cube(0, -1));
        Check.noSuch("cube(12, 0)", () -> x.cube(12, 0));
        Check.noSuch("cube(64, 0)", () -> x.cube(64, 0));
        ScanPacker y = Texts.of("in a b c d e f;g = xor a b c;h = xor d e f;k = xor g h;see k;");
        for (int input = 0; input < 6; input++) {
            int at = input;
            Check.due("all six are set", () -> y.cube(17, at), 0);
            Check.due("all six are set, the last one 1", () -> y.cube(16, at), at == 5 ? 1 : 0);
        }
        Check.due("six", () -> y.test(16, 5), 6);
        Check.noSuch("cube(-1, 0)", () -> x.cube(-1, 0));
    }

    /** Of like CUBES the first by INPUT 0, then 1 ..: 0, then 1, then UNSET. */
    private static void firstOfLikeCubes() {
        ScanPacker x = Texts.of("in a b c;g = nand a b c;see g;");
        Check.due("0 of the first", () -> x.cube(6, 0), 0);
        Check.due("UNSET behind it", () -> x.cube(6, 1) * 10 + x.cube(6, 2), 22);
        ScanPacker y = Texts.of("in a b;g = xor a b;see g;");
        Check.due("g at 0: a 0", () -> y.cube(4, 0), 0);
        Check.due("g at 0: b 1", () -> y.cube(4, 1), 1);
        Check.due("g at 1: a 0", () -> y.cube(5, 0), 0);
        Check.due("g at 1: b 0", () -> y.cube(5, 1), 0);
        Check.due("a at 1: b UNSET would leave g UNSET", () -> y.cube(1, 1), 0);
        // g is 1 by all ROWS, but UNSET where a is: TESTS of b at 0 don't ask for a, its CUBE does
        ScanPacker z = Texts.of("in a b;n = not a;g = or a n b;h = nor b g;k = or h b;see k;");
        Check.due("b at 0: TESTS", () -> z.row(2, 0) * 10 + z.row(2, 1), 23);
        Check.due("b at 0 sets a too", () -> z.test(2, 5), 2);
        Check.due("to 0", () -> z.cube(2, 0), 0);
        Check.due("k at 0 doesn't", () -> z.test(10, 5), 1);
        Check.due("k at 0: a is UNSET", () -> z.cube(10, 0), 2);
    }

    private static void kinds() {
        String[] names = {"and", "or", "xor", "nand", "nor"};
        String[] due = {"000012022", "012111212", "012102222", "111102122", "102000202"};
        for (int k = 0; k < names.length; k++) {
            ScanPacker x = Texts.of("in a b;g = " + names[k] + " a b;h = " + names[k] + " b a a;");
            for (int row = 0; row < 9; row++) {
                int r = row;
                Check.due(names[k] + " by " + row, () -> x.by(r, -1, 2), due[k].charAt(row) - '0');
            }
            Check.due(names[k] + " is KIND", () -> x.line(2, 0), k + 1);
            int of = names[k].equals("xor") ? 1 : due[k].charAt(1) - '0';
            Check.due(names[k] + " of three, a 1 and b 0", () -> x.by(1, -1, 3), names[k].equals("xor") ? 0 : of);
        }
        ScanPacker x = Texts.of("in a;g = not a;h = xor a a a;");
        for (int row = 0; row < 3; row++) {
            int r = row;
            Check.due("not by " + row, () -> x.by(r, -1, 1), "102".charAt(row) - '0');
            Check.due("xor of three by " + row, () -> x.by(r, -1, 2), "012".charAt(row) - '0');
        }
    }

    private static void by() {
        ScanPacker x = Texts.of(TWO_CHAINS);
        Check.due("by: a", () -> x.by(1, -1, 0), 1);
        Check.due("by: d UNSET", () -> x.by(2 * 27, -1, 3), 2);
        Check.due("by: g of 1 and UNSET", () -> x.by(1 + 2 * 27, -1, 4), 2);
        Check.due("by: g of 0 and UNSET", () -> x.by(2 * 27, -1, 4), 1);
        Check.due("by: an UNSET INPUT that STICKS", () -> x.by(80, 6, 3), 0);
        Check.due("by: a GATE of it", () -> x.by(80, 6, 4), 1);
        Check.due("by: an UNSET GATE that STICKS", () -> x.by(80, 9, 4), 1);
        Check.due("by: another LINE", () -> x.by(80, 9, 5), 2);
        Check.due("by: no DEFECT is thought of", () -> x.defect(9) + 10 * x.by(28, -1, 4), -1);
        ScanPacker y = Texts.of("in a b c d e f;g=and a f;");
        Check.due("by: six INPUTS", () -> y.by(1 + 243, -1, 6), 1);
        Check.due("by: six UNSET", () -> y.by(728, -1, 6), 2);
        Check.illegal("by(729, ..)", () -> y.by(729, -1, 6));
        Check.illegal("by(81, ..)", () -> x.by(81, -1, 0));
        Check.illegal("by(-1, ..)", () -> x.by(-1, 0, 0));
        Check.noSuch("by: no FAULT", () -> x.by(0, 12, 0));
        Check.noSuch("by: FAULT -2", () -> x.by(0, -2, 0));
        Check.noSuch("by: no LINE", () -> x.by(0, 0, 6));
        Check.noSuch("by: no LINE, no ROW", () -> x.by(81, 0, -1));
        Check.noSuch("by: no FAULT, no ROW", () -> x.by(-1, 12, 0));
    }

    private static void programIs(ScanPacker x, int i, int... due) {
        for (int what = 0; what < 4; what++) {
            int w = what;
            Check.due("program(" + i + ", " + what + ")", () -> x.program(i, w), due[what]);
        }
    }

    private static void program() {
        ScanPacker x = Texts.of(TWO_CHAINS);
        programIs(x, 0, 11, 5, 0, 5);
        programIs(x, 1, 8, 5, 0, 5);
        programIs(x, 2, 5, 2, 1, 2);
        Check.due("PATTERNS", () -> x.count(13), 3);
        Check.noSuch("program(3, 0)", () -> x.program(3, 0));
        Check.noSuch("program(-1, 0)", () -> x.program(-1, 0));
        Check.noSuch("program(0, 4)", () -> x.program(0, 4));
        Check.noSuch("program(0, -1)", () -> x.program(0, -1));
        ScanPacker y = Texts.of("in a b c d e f;chain a b c;chain d e f;see b e;");
        programIs(y, 0, 18, 2, 6, 2);
        programIs(y, 1, 0, 2, 0, 2);
        ScanPacker z = Texts.of("in a b c d e f;chain a b;chain c d;chain e f;see b c f;");
        programIs(z, 0, 38, 3, 3, 3);
        programIs(z, 1, 0, 3, 0, 3);
    }

    /** Only d is SEEN: all others are UNSET in the CUBES. */
    private static void filled() {
        ScanPacker x = Texts.of("in a b c d e f;chain b c d e;see d;");
        programIs(x, 0, 8, 1, 5, 1);
        programIs(x, 1, 0, 1, 0, 1);
        x.fill(1);
        programIs(x, 0, 63, 1, 0, 1);
        programIs(x, 1, 55, 1, 5, 1);
        x.fill(2);
        programIs(x, 0, 30, 1, 0, 1);
        programIs(x, 1, 0, 1, 0, 1);
        x.undo();
        programIs(x, 1, 55, 1, 5, 1);
        ScanPacker y = Texts.of("in a b c;chain b a;see c;fill 2;");
        programIs(y, 0, 4, 1, 0, 1);
    }

    private static void filledAlongChains() {
        ScanPacker x = Texts.of(MIDDLE);
        Check.due("PATTERNS", () -> x.count(13), 3);
        programIs(x, 0, 7, 4, 3, 4);
        programIs(x, 1, 0, 2, 0, 2);
        programIs(x, 2, 31, 2, 0, 2);
        Check.due("fill 0", () -> x.fill(0), 2);
        programIs(x, 0, 2, 4, 3, 4);
        programIs(x, 2, 10, 2, 10, 2);
        ScanPacker y = Texts.of("in a b c d e;chain e d c b a;h = not d;g = and b h;see g;fill 2;");
        programIs(y, 0, 3, 4, 3, 4);
    }

    private static void programOfTheRest() {
        ScanPacker x = Texts.of(TWO_CHAINS);
        x.load(9);
        x.apply();
        Check.due("PATTERNS of the rest", () -> x.count(13), 2);
        // open: 1 0221, 2 2102, 4 2012, 7 1220, 8 0222, 10 2122
        programIs(x, 0, 10, 4, 1, 4);
        programIs(x, 1, 5, 2, 1, 2);
        x.load(7);
        x.apply();
        Check.due("CAUGHT by 7: 7, 8, 10", () -> x.count(8), 9);
        programIs(x, 0, 10, 2, 1, 2);
        x.undo();
        x.undo();
        x.undo();
        x.undo();
        programIs(x, 0, 11, 5, 0, 5);
        for (int row = 0; row < 16; row++) {
            x.load(row);
            x.apply();
        }
        Check.due("all DONE", () -> x.count(8), 12);
        Check.due("no PATTERNS", () -> x.count(13), 0);
        Check.noSuch("program(0, 0), all DONE", () -> x.program(0, 0));
        Check.due("order of none", () -> x.order(0, -1), 0);
        Check.due("order of none, first", () -> x.order(0, 0), 0);
    }

    private static void order() {
        ScanPacker x = Texts.of("in a b c d e f;chain b c d e;see d;");
        int[] due = {3, 1, 2, 4};
        for (int i = 0; i < 4; i++) {
            int at = i;
            Check.due("order(0, " + i + ")", () -> x.order(0, at), due[i]);
        }
        Check.due("order(0, NONE)", () -> x.order(0, -1), 1);
        x.fill(1);
        Check.due("order by FILL 1", () -> x.order(0, -1) * 10 + x.order(0, 0), 13);
        x.fill(2);
        Check.due("order by FILL 2", () -> x.order(0, -1) * 10 + x.order(0, 0), 1);
        Check.noSuch("order(0, 4)", () -> x.order(0, 4));
        Check.noSuch("order(0, -2)", () -> x.order(0, -2));
        Check.noSuch("order(1, 0)", () -> x.order(1, 0));
        Check.noSuch("order(-1, NONE)", () -> x.order(-1, -1));
    }

    private static void orderOfLikeOnes() {
        ScanPacker x = Texts.of("in a b c d e f;chain f e d c b a;");
        for (int i = 0; i < 6; i++) {
            int at = i;
            Check.due("no PATTERNS: order(0, " + i + ")", () -> x.order(0, at), i);
        }
        Check.due("no PATTERNS: COST", () -> x.order(0, -1), 0);
        ScanPacker y = Texts.of(TWO_CHAINS);
        Check.due("like ones, COST", () -> y.order(0, -1), 1);
        Check.due("like ones, the first", () -> y.order(0, 0), 0);
        y.load(5);
        y.apply();
        Check.due("PATTERNS of the rest", () -> y.count(13), 2);
        Check.due("COST of the rest alone", () -> y.order(0, -1), 0);
        Check.due("one CELL", () -> y.order(1, 0), 2);
        Check.due("one CELL, COST", () -> y.order(1, -1), 0);
    }

    /** CUBES 0--, --1, 10-, -10: in their order the first group that does would need three. */
    private static void pack() {
        ScanPacker x = Texts.of("in x y z;m = not y;n = not z;g = and x m;h = and y n;see x z g h;");
        Check.due("no groups", () -> x.pack(-1), 0);
        Check.noSuch("pack(0) of none", () -> x.pack(0));
        x.pick(1);
        x.pick(4);
        Check.due("one group", () -> x.pack(-1), 1);
        x.pick(10);
        Check.due("two groups", () -> x.pack(-1), 2);
        Check.due("the first row of them", () -> x.pack(0) * 100 + x.pack(1) * 10 + x.pack(2), 1);
        x.pick(12);
        Check.due("still two", () -> x.pack(-1), 2);
        int[] due = {0, 1, 1, 0};
        for (int i = 0; i < 4; i++) {
            int at = i;
            Check.due("pack(" + i + ")", () -> x.pack(at), due[i]);
        }
        Check.noSuch("pack(4)", () -> x.pack(4));
        Check.noSuch("pack(-2)", () -> x.pack(-2));
        x.pick(-1);
        x.pick(1);
        x.pick(10);
        Check.due("each in one of its own", () -> x.pack(-1) * 100 + x.pack(0) * 10 + x.pack(1), 201);
        x.undo();
        x.undo();
        x.undo();
        x.undo();
        Check.due("one less", () -> x.pack(2), 1);
        Check.noSuch("pack(3)", () -> x.pack(3));
    }

    /** xor: each of its four CUBES sets both, so that none AGREES with another one. */
    private static void packOfMany() {
        ScanPacker x = Texts.of("in a b c;g = xor a b;h = nand a b;see g h c;");
        int[] picks = {0, 1, 2, 3, 4, 5, 6, 7};
        for (int fault : picks) {
            x.pick(fault);
        }
        Check.due("eight are PICKED", () -> x.count(12), 8);
        Reference y = new Reference();
        feedTo(y, "in a b c;g = xor a b;h = nand a b;see g h c;");
        for (int fault : picks) {
            y.pick(fault);
        }
        for (int i = -1; i < 8; i++) {
            int at = i;
            Check.due("of eight pack(" + i + ")", () -> x.pack(at), y.pack(at));
        }
    }

    /** Six INPUTS, sixteen GATES, all of their LINES SEEN. */
    private static void largest() {
        StringBuilder text = new StringBuilder("in a b c d e f;chain f e d c b a;");
        StringBuilder see = new StringBuilder("see a b c d e f");
        String[] kinds = {"not", "and", "or", "xor", "nand", "nor"};
        for (int i = 0; i < 16; i++) {
            String name = "g" + (char) ('a' + i);
            String last = i == 0 ? "f" : "g" + (char) ('a' + i - 1);
            text.append(name).append("=").append(kinds[i % 6]).append(" ").append(last);
            text.append(i % 6 == 0 ? ";" : " " + "abcdef".charAt(i % 5) + ";");
            see.append(" ").append(name);
        }
        text.append(see).append(";take a gp;take b go;take c gn;");
        ScanPacker x = Texts.of(text.toString());
        Reference y = new Reference();
        feedTo(y, text.toString());
        Check.due("44 FAULTS", () -> x.count(5), 44);
        Check.due("PATTERNS", () -> x.count(13), y.count(13));
        Check.due("all FIT", () -> x.fits(-1), 44);
        Check.due("look(0)", () -> x.look(0), y.look(0));
        Check.due("look(1)", () -> x.look(1), y.look(1));
        Check.due("the last FAULT as DEFECT", () -> x.defect(43) + y.defect(43), -2);
        Check.due("take()", x::take, y.take());
        for (int f = 0; f < 44; f++) {
            int fault = f;
            for (int what = 0; what < 6; what++) {
                int w = what;
                Check.due("largest test(" + f + ", " + what + ")", () -> x.test(fault, w), y.test(fault, w));
            }
            Check.due("largest tells(" + f + ")", () -> x.tells(fault), y.tells(fault));
        }
        for (int i = -1; i < 6; i++) {
            int at = i;
            Check.due("largest order(0, " + i + ")", () -> x.order(0, at), y.order(0, at));
        }
    }

    static void feedTo(Reference y, String text) {
        StringBuilder padded = new StringBuilder(text);
        while (padded.length() % 20 != 0) {
            padded.append(' ');
        }
        for (int at = 0; at < padded.length(); at += 20) {
            int[] n = new int[5];
            for (int k = 0; k < 20; k++) {
                n[k / 4] = n[k / 4] << 8 | padded.charAt(at + k);
            }
            y.feed(n[0], n[1], n[2], n[3], n[4]);
        }
        y.net(text.length());
    }
}
