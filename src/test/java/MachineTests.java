/** Promises 16 to 34: the MACHINE, ACTS undone, what is NOTED, what is to come, AN IMAGE. */
final class MachineTests {
    /** Six CELLS that count: each TAKEN is one more; z is 1 by 63 alone. */
    static final String COUNTER = "in a b c d e f;chain a b c d e f;n=not a;p=xor a b;q=and a b;r=xor q c;"
        + "s=and q c;t=xor s d;u=and s d;v=xor u e;w=and u e;x=xor w f;z=and w f;"
        + "take a n;take b p;take c r;take d t;take e v;take f x;see z;";

    private MachineTests() {
    }

    static void all() {
        put();
        shift();
        take();
        takeWithDefect();
        load();
        apply();
        defect();
        fill();
        pick();
        undo();
        undoAtMost();
        note();
        fits();
        fitsSound();
        look();
        forget();
        behind();
        back();
        tells();
        years();
        yearsStartFromNow();
        image();
        imageOfManyActs();
        imageOfNotes();
    }

    private static ScanPacker twoChains() {
        return Texts.of(NetTests.TWO_CHAINS);
    }

    private static void refusedAct(ScanPacker x, String what, Check.Call call) {
        int status = x.count(18);
        int acts = x.count(14);
        Check.due(what, call, -1);
        Check.due(what + ": STATUS", () -> x.count(18), status + 1);
        Check.due(what + ": no ACT", () -> x.count(14), acts);
    }

    private static void put() {
        ScanPacker x = twoChains();
        Check.due("put(3, 1)", () -> x.put(3, 1), 0);
        Check.due("put(3, 1) again", () -> x.put(3, 1), 1);
        Check.due("both are ACTS", () -> x.count(14), 2);
        Check.due("INPUTS", () -> x.count(9), 8);
        Check.due("put(3, 0)", () -> x.put(3, 0), 1);
        Check.due("INPUTS are 0", () -> x.count(9), 0);
        Check.due("no CYCLES", () -> x.count(10), 0);
        refusedAct(x, "put of a CELL", () -> x.put(0, 1));
        refusedAct(x, "put of a GATE", () -> x.put(4, 1));
        refusedAct(x, "put of no LINE", () -> x.put(6, 1));
        refusedAct(x, "put of NONE", () -> x.put(-1, 1));
        ScanPacker y = Texts.of("in a;g=not a;");
        refusedAct(y, "put of a GATE, no CELLS", () -> y.put(1, 1));
        refusedAct(x, "put of 2", () -> x.put(3, 2));
        refusedAct(x, "put of -1", () -> x.put(3, -1));
        Check.due("INPUTS stay", () -> x.count(9), 0);
        x.defect(7);
        Check.due("what it was, not what it tells", () -> x.put(3, 0), 0);
    }

    private static void shift() {
        ScanPacker x = twoChains();
        Check.due("shift(3)", () -> x.shift(3), 0);
        Check.due("a and c", () -> x.count(9), 5);
        Check.due("shift(1)", () -> x.shift(1), 2);
        Check.due("a and b", () -> x.count(9), 3);
        Check.due("shift(0)", () -> x.shift(0), 1);
        Check.due("b", () -> x.count(9), 2);
        Check.due("shift(4), no third CHAIN", () -> x.shift(4), 1);
        Check.due("none", () -> x.count(9), 0);
        Check.due("CYCLES", () -> x.count(10), 4);
        Check.due("ACTS", () -> x.count(14), 4);
        Check.due("shift(7)", () -> x.shift(7), 0);
        refusedAct(x, "shift(8)", () -> x.shift(8));
        refusedAct(x, "shift(-1)", () -> x.shift(-1));
        Check.due("CYCLES stay", () -> x.count(10), 5);
        x.defect(0);
        x.shift(0);
        Check.due("what it has goes on, by its DEFECT too", () -> x.count(9) & 3, 2);
        ScanPacker y = Texts.of("in a b;see a;");
        refusedAct(y, "shift without CHAINS", () -> y.shift(0));
        ScanPacker z = Texts.of("in a b c;chain a;chain b;chain c;");
        z.load(5);
        Check.due("three come out", () -> z.shift(2), 5);
        Check.due("three go in", () -> z.count(9), 2);
    }

    private static void take() {
        ScanPacker x = twoChains();
        x.load(10);
        Check.due("take() at 10", x::take, 14);
        Check.due("CYCLES", () -> x.count(10), 3);
        Check.due("ACTS", () -> x.count(14), 2);
        x.load(9);
        Check.due("take() at 9", x::take, 9);
        Check.due("at once: the two change places", () -> {
            ScanPacker y = Texts.of("in a b;chain a b;take a b;take b a;");
            y.load(1);
            return y.take();
        }, 2);
        ScanPacker z = Texts.of("in a;see a;");
        Check.due("nothing to take", z::take, 0);
        Check.due("a CYCLE all the same", () -> z.count(10), 1);
    }

    private static void takeWithDefect() {
        ScanPacker x = twoChains();
        x.load(9);
        x.defect(9);
        Check.due("g STICKS at 1", x::take, 11);
        x.load(9);
        x.defect(3);
        Check.due("b STICKS at 1: b gets 0, c gets 1", x::take, 13);
        Check.due("what b tells", () -> x.line(1, 6), 1);
        ScanPacker y = Texts.of("in a b;chain a b;take b a;take a a;");
        y.defect(1);
        Check.due("a CELL that STICKS is TAKEN as it tells", y::take, 3);
    }

    private static void load() {
        ScanPacker x = twoChains();
        Check.due("load(15)", () -> x.load(15), 2);
        Check.due("INPUTS", () -> x.count(9), 15);
        Check.due("CYCLES", () -> x.count(10), 2);
        Check.due("load(6)", () -> x.load(6), 2);
        Check.due("INPUTS", () -> x.count(9), 6);
        Check.due("CYCLES", () -> x.count(10), 4);
        Check.due("ACTS", () -> x.count(14), 2);
        refusedAct(x, "load(16)", () -> x.load(16));
        refusedAct(x, "load(-1)", () -> x.load(-1));
        x.defect(0);
        x.load(1);
        Check.due("what it has is as told, by its DEFECT too", () -> x.count(9), 1);
        ScanPacker y = Texts.of("in a b;see a;");
        Check.due("no CHAINS", () -> y.load(3), 0);
        Check.due("PINS", () -> y.count(9), 3);
        Check.due("an ACT", () -> y.count(14), 1);
        ScanPacker z = Texts.of("in a b c d e f;");
        Check.due("load(63)", () -> z.load(63), 0);
        refusedAct(z, "load(64)", () -> z.load(64));
    }

    private static void apply() {
        ScanPacker x = twoChains();
        x.load(9);
        Check.due("apply() at 9", x::apply, 6);
        Check.due("DONE", () -> x.count(8), 6);
        Check.due("again", x::apply, 0);
        Check.due("an ACT all the same", () -> x.count(14), 3);
        x.load(11);
        Check.due("apply() at 11", x::apply, 2);
        Check.due("DONE", () -> x.count(8), 8);
        Check.due("no CYCLES", () -> x.count(10), 4);
        x.undo();
        Check.due("undone", () -> x.count(8), 6);
        Check.due("2 isn't DONE", () -> x.test(2, 4), 0);
        Check.due("9 is", () -> x.test(9, 4), 1);
        ScanPacker y = twoChains();
        y.defect(9);
        y.load(9);
        Check.due("no DEFECT is thought of", y::apply, 6);
        ScanPacker z = twoChains();
        Check.due("apply() at 0", z::apply, 4);
        Check.due("0 isn't DONE", () -> z.test(0, 4), 0);
        Check.due("3 is", () -> z.test(3, 4), 1);
    }

    private static void defect() {
        ScanPacker x = twoChains();
        Check.due("defect(11)", () -> x.defect(11), -1);
        Check.due("it is", () -> x.count(11), 11);
        Check.due("hh", () -> x.line(5, 6), 1);
        Check.due("defect(8)", () -> x.defect(8), 11);
        Check.due("hh is free", () -> x.line(5, 6), 0);
        Check.due("g", () -> x.line(4, 6), 0);
        Check.due("defect(NONE)", () -> x.defect(-1), 8);
        Check.due("defect(NONE) again", () -> x.defect(-1), -1);
        Check.due("ACTS", () -> x.count(14), 4);
        Check.noSuch("defect(12)", () -> x.defect(12));
        Check.noSuch("defect(-2)", () -> x.defect(-2));
        Check.due("no ACT where it throws", () -> x.count(14), 4);
        Check.due("not in STATUS", () -> x.count(18), 0);
        x.undo();
        x.undo();
        Check.due("undone", () -> x.count(11), 8);
        ScanPacker y = Texts.of("in a b;see b;");
        Check.due("a LOST one, too", () -> y.defect(0), -1);
    }

    private static void fill() {
        ScanPacker x = twoChains();
        Check.due("fill(2)", () -> x.fill(2), 1);
        Check.due("FILL", () -> x.count(4), 2);
        Check.due("fill(0)", () -> x.fill(0), 2);
        Check.due("fill(0) again", () -> x.fill(0), 0);
        Check.due("ACTS", () -> x.count(14), 3);
        refusedAct(x, "fill(3)", () -> x.fill(3));
        refusedAct(x, "fill(-1)", () -> x.fill(-1));
        Check.due("FILL stays", () -> x.count(4), 0);
        Check.due("0 without", () -> Texts.of("in a;").count(4), 0);
    }

    private static void pick() {
        ScanPacker x = twoChains();
        for (int fault = 0; fault < 8; fault++) {
            int f = fault;
            Check.due("pick(" + fault + ")", () -> x.pick(f), fault + 1);
        }
        refusedAct(x, "pick a ninth", () -> x.pick(8));
        Check.due("pick(NONE)", () -> x.pick(-1), 0);
        Check.due("none is PICKED", () -> x.count(12), 0);
        Check.due("pick(NONE) again", () -> x.pick(-1), 0);
        Check.due("ACTS", () -> x.count(14), 10);
        Check.due("pick(8)", () -> x.pick(8), 1);
        refusedAct(x, "pick(8) again", () -> x.pick(8));
        refusedAct(x, "pick(12)", () -> x.pick(12));
        refusedAct(x, "pick(-2)", () -> x.pick(-2));
        x.undo();
        x.undo();
        x.undo();
        Check.due("undone", () -> x.count(12), 8);
        refusedAct(x, "pick(7) again", () -> x.pick(7));
        pickUndone();
        ScanPacker y = Texts.of("in a b;see b;");
        refusedAct(y, "pick of a LOST one", () -> y.pick(0));
        Check.due("pick of another one", () -> y.pick(3), 1);
        y.load(0);
        y.apply();
        y.pick(-1);
        Check.due("pick of one that is DONE", () -> y.pick(3), 1);
    }

    private static void pickUndone() {
        ScanPacker x = twoChains();
        x.pick(3);
        x.pick(-1);
        x.pick(5);
        x.undo();
        x.undo();
        Check.due("3 is PICKED again", () -> x.pick(3), -1);
        Check.due("5 isn't any more", () -> x.pick(5), 2);
    }

    private static void undo() {
        ScanPacker x = twoChains();
        Check.due("undo() of none", x::undo, -1);
        Check.due("it isn't in STATUS", () -> x.count(18), 0);
        x.put(3, 1);
        x.shift(3);
        x.take();
        x.load(7);
        x.apply();
        x.defect(0);
        x.fill(2);
        x.pick(0);
        x.note(1, 4, 1);
        int[][] due = {{7, 4, 7, 0, 2, 0}, {7, 4, 7, 0, 1, 0}, {7, 4, 7, -1, 1, 0}, {0, 4, 7, -1, 1, 0},
            {0, 2, 13, -1, 1, 0}, {0, 1, 13, -1, 1, 0}, {0, 0, 8, -1, 1, 0}, {0, 0, 0, -1, 1, 0}};
        due[0][0] = x.count(8);
        due[1][0] = x.count(8);
        due[2][0] = x.count(8);
        for (int i = 0; i < due.length; i++) {
            int left = due.length - 1 - i;
            Check.due("undo() " + i, x::undo, left);
            int[] whats = {8, 10, 9, 11, 4, 12};
            for (int k = 0; k < whats.length; k++) {
                int what = whats[k];
                Check.due("undo() " + i + ": count(" + what + ")", () -> x.count(what), due[i][k]);
            }
        }
        Check.due("undo() of none any more", x::undo, -1);
        Check.due("what is NOTED stays", () -> x.count(15), 1);
    }

    private static void undoAtMost() {
        ScanPacker x = Texts.of("in a b c d e f;");
        for (int i = 1; i <= 45; i++) {
            x.load(i);
        }
        Check.due("40 are kept", () -> x.count(14), 40);
        for (int i = 39; i >= 0; i--) {
            Check.due("undo() of 45", x::undo, i);
        }
        Check.due("the latest ones", () -> x.count(9), 5);
        Check.due("no more", x::undo, -1);
        x.load(9);
        Check.due("and on", x::undo, 0);
        Check.due("as it was", () -> x.count(9), 5);
    }

    private static void note() {
        ScanPacker x = twoChains();
        for (int i = 1; i <= 10; i++) {
            Check.due("note " + i, () -> x.note(15, 4, 0), i);
            if (i == 9) {
                Check.due("no ROW", () -> x.note(16, 4, 0), -1);
                Check.due("ROW -1", () -> x.note(-1, 4, 0), -1);
                Check.due("not SEEN", () -> x.note(0, 0, 0), -1);
                Check.due("no LINE", () -> x.note(0, 6, 0), -1);
                Check.due("LINE -1", () -> x.note(0, -1, 0), -1);
                Check.due("LINE 36", () -> x.note(0, 36, 0), -1);
                Check.due("not 0 or 1", () -> x.note(0, 4, 2), -1);
                Check.due("-1", () -> x.note(0, 4, -1), -1);
                Check.due("NOTED", () -> x.count(15), 9);
                Check.due("STATUS 2", () -> x.count(19), 8);
            }
        }
        Check.due("an eleventh", () -> x.note(15, 5, 1), -1);
        Check.due("STATUS 2 then", () -> x.count(19), 9);
        Check.due("STATUS 1", () -> x.count(18), 0);
        Check.due("no ACTS", () -> x.count(14), 0);
    }

    private static void fitsAre(ScanPacker x, int sound, int... due) {
        Check.due("fits(-1)", () -> x.fits(-1), due.length);
        Check.due("fits(-2)", () -> x.fits(-2), sound);
        for (int i = 0; i < due.length; i++) {
            int at = i;
            Check.due("fits(" + i + ")", () -> x.fits(at), due[i]);
        }
        Check.noSuch("fits behind the last", () -> x.fits(due.length));
        Check.noSuch("fits(-3)", () -> x.fits(-3));
    }

    private static void fits() {
        ScanPacker x = twoChains();
        fitsAre(x, 1, 0, 1, 2, 3, 4, 5, 6, 7, 8, 9, 10, 11);
        x.note(0, 4, 1);
        fitsAre(x, 1, 0, 1, 2, 3, 4, 5, 6, 7, 9, 10, 11);
        x.note(9, 5, 1);
        fitsAre(x, 0, 3, 5, 11);
        x.note(9, 4, 1);
        fitsAre(x, 0);
        ScanPacker y = Texts.of("in a b;see b;");
        y.note(2, 1, 0);
        fitsAre(y, 0, 2);
        y.forget();
        y.note(2, 1, 1);
        fitsAre(y, 1, 0, 1, 3);
        y.defect(2);
        fitsAre(y, 1, 0, 1, 3);
    }

    /** g, nand of a and d, by 9: without any 0. */
    private static void fitsSound() {
        ScanPacker x = twoChains();
        x.note(9, 4, 1);
        fitsAre(x, 0, 0, 6, 9);
        ScanPacker y = twoChains();
        y.note(9, 4, 0);
        fitsAre(y, 1, 1, 2, 3, 4, 5, 7, 8, 10, 11);
    }

    private static void lookIs(ScanPacker x, int row, int unlike) {
        Check.due("look(0)", () -> x.look(0), row);
        Check.due("look(1)", () -> x.look(1), unlike);
    }

    private static void look() {
        ScanPacker x = twoChains();
        x.note(0, 4, 1);
        lookIs(x, 1, 3);
        x.note(9, 5, 1);
        lookIs(x, 0, 1);
        x.note(9, 4, 1);
        lookIs(x, -1, 0);
        Check.noSuch("look(2)", () -> x.look(2));
        Check.noSuch("look(-1)", () -> x.look(-1));
        ScanPacker y = Texts.of("in a b;see b;");
        lookIs(y, 0, 2);
        y.note(0, 1, 0);
        // left: a's and b at 0, and without any: by b 1 they are two
        lookIs(y, 2, 2);
        y.note(2, 1, 0);
        lookIs(y, 0, 1);
        ScanPacker one = Texts.of("in a;see a;");
        one.note(0, 0, 0);
        lookIs(one, 1, 2);
        ScanPacker z = Texts.of("in a b c d e f;see a b c d e f;");
        lookIs(z, 0, 7);
        z.note(63, 5, 0);
        lookIs(z, 0, 1);
    }

    private static void forget() {
        ScanPacker x = twoChains();
        x.note(0, 4, 1);
        x.note(0, 4, 0);
        x.note(16, 4, 0);
        x.forget();
        Check.due("all forgotten", () -> x.count(15), 0);
        Check.due("all FIT again", () -> x.fits(-1), 12);
        Check.due("STATUS stays", () -> x.count(19), 1);
        Check.due("from the first again", () -> x.note(0, 5, 1), 1);
        Check.due("the new one counts", () -> x.fits(-1), 3);
    }

    private static void behind() {
        ScanPacker x = twoChains();
        x.load(8);
        int[] due = {8, 10, 14, 14};
        for (int n = 0; n < 4; n++) {
            int at = n;
            Check.due("behind(" + n + ")", () -> x.behind(at), due[n]);
        }
        Check.due("behind(40)", () -> x.behind(40), 14);
        Check.illegal("behind(41)", () -> x.behind(41));
        Check.illegal("behind(-1)", () -> x.behind(-1));
        Check.due("nothing stays", () -> x.count(9) * 100 + x.count(10) * 10 + x.count(14), 821);
        x.defect(8);
        Check.due("by the DEFECT", () -> x.behind(1), 8);
        ScanPacker y = Texts.of(COUNTER);
        Check.due("it counts", () -> y.behind(40), 40);
        y.load(30);
        Check.due("it counts on", () -> y.behind(40), 6);
    }

    private static void back() {
        ScanPacker x = twoChains();
        x.load(8);
        Check.due("never again", x::back, -1);
        x.load(14);
        Check.due("stays", x::back, 1);
        ScanPacker y = Texts.of(COUNTER);
        Check.due("behind 64", y::back, 64);
        y.defect(0);
        Check.due("by the DEFECT: 0, 1, 1 ..", y::back, -1);
        y.load(1);
        Check.due("by the DEFECT: 1", y::back, 1);
        ScanPacker z = Texts.of("in a;chain a;n=not a;take a n;");
        Check.due("behind 2", z::back, 2);
        Check.due("nothing stays", () -> z.count(9) + z.count(10) + z.count(14), 0);
    }

    private static void tells() {
        ScanPacker x = twoChains();
        x.load(8);
        // g is 1 for good; hh is 0, then 1 by b for good, whatever c is
        int[] due = {-1, 0, 1, 0, -1, 0, -1, -1, 0, -1, 1, 0};
        for (int f = 0; f < 12; f++) {
            int fault = f;
            Check.due("tells(" + f + ")", () -> x.tells(fault), due[f]);
        }
        x.defect(8);
        Check.due("no DEFECT else", () -> x.tells(2), 1);
        Check.noSuch("tells(12)", () -> x.tells(12));
        Check.noSuch("tells(-1)", () -> x.tells(-1));
        Check.due("nothing stays", () -> x.count(9) * 100 + x.count(10), 802);
        ScanPacker one = Texts.of("in a;see a;");
        Check.due("the first LINE at 1", () -> one.tells(1), 0);
        Check.due("the first LINE at 0", () -> one.tells(0), -1);
        ScanPacker y = Texts.of(COUNTER);
        Check.due("z at 0 is told by 63", () -> y.tells(32), 63);
        Check.due("z at 1 at once", () -> y.tells(33), 0);
        y.load(63);
        Check.due("z at 0 at once", () -> y.tells(32), 0);
        y.load(0);
        Check.due("w at 0 is told by 31, by x", () -> y.tells(28), 31);
    }

    private static void years() {
        String[] nets = {NetTests.TWO_CHAINS, COUNTER, "in a b c;see a;g=and a b;see g;", ""};
        int[] seeds = {0, 1, -1, 12345, Integer.MIN_VALUE, Integer.MAX_VALUE, 77, 4711};
        for (String net : nets) {
            for (int seed : seeds) {
                for (int n : new int[] {0, 1, 2, 7, 60}) {
                    ScanPacker x = Texts.of(net);
                    ScanPacker y = Texts.of(net);
                    live(y, seed, n);
                    Check.due("years DONE", () -> x.years(seed, n, 0), y.count(8));
                    Check.due("years CYCLES", () -> x.years(seed, n, 1), y.count(10));
                    Check.due("years INPUTS", () -> x.years(seed, n, 2), y.count(9));
                    Check.due("all as ever", () -> x.count(8) + x.count(9) + x.count(10) + x.count(14), 0);
                }
            }
        }
        ScanPacker x = twoChains();
        Check.noSuch("years what 3", () -> x.years(1, 1, 3));
        Check.noSuch("years what -1", () -> x.years(1, 1, -1));
        Check.noSuch("years what 3, n 61", () -> x.years(1, 61, 3));
        Check.illegal("years n 61", () -> x.years(1, 61, 0));
        Check.illegal("years n -1", () -> x.years(1, -1, 2));
        Check.due("not in STATUS", () -> x.count(17) + x.count(18) + x.count(19), 0);
    }

    /** The same by calls that stay. */
    static void live(ScanPacker y, int seed, int n) {
        long s = seed;
        int inputs = y.count(0);
        for (int i = 0; i < n; i++) {
            s = (int) (s * 1103515245L + 12345L);
            int what = (int) (s >> 16 & 32767) % 4;
            if (what == 0) {
                s = (int) (s * 1103515245L + 12345L);
                if (y.count(3) > 0) {
                    y.shift((int) (s >> 16 & 32767) % 8);
                }
            } else if (what == 1) {
                y.take();
            } else if (what == 2) {
                s = (int) (s * 1103515245L + 12345L);
                y.load((int) (s >> 16 & 32767) % 64 % (1 << inputs));
            } else {
                y.apply();
            }
        }
    }

    private static void yearsStartFromNow() {
        for (int seed = 0; seed < 40; seed++) {
            int s = seed;
            ScanPacker x = twoChains();
            ScanPacker y = twoChains();
            for (ScanPacker each : new ScanPacker[] {x, y}) {
                each.load(9);
                each.apply();
                each.load(12);
                each.defect(9);
            }
            live(y, seed, 3);
            Check.due("from now: DONE", () -> x.years(s, 3, 0), y.count(8));
            Check.due("from now: CYCLES of these", () -> x.years(s, 3, 1), y.count(10) - 4);
            Check.due("from now: INPUTS", () -> x.years(s, 3, 2), y.count(9));
            Check.due("all as ever: DONE", () -> x.count(8), 6);
            Check.due("all as ever: INPUTS", () -> x.count(9), 12);
        }
    }

    private static void image() {
        ScanPacker x = twoChains();
        Check.due("no image", x::restore, 0);
        x.load(9);
        x.apply();
        x.pick(0);
        x.note(0, 4, 1);
        x.put(0, 0);
        x.feed(0, 0, 0, 0, 0);
        x.image();
        x.defect(3);
        x.fill(2);
        x.load(11);
        x.apply();
        x.take();
        x.pick(1);
        x.note(0, 5, 1);
        x.note(0, 0, 1);
        x.put(0, 0);
        x.net(20);
        x.feed(0, 0, 0, 0, 0);
        x.feed(0, 0, 0, 0, 0);
        int[] due = {4, 2, 2, 2, 1, 12, 0, 8, 6, 9, 2, -1, 1, 2, 3, 1, 40, 0, 1, 0};
        for (int round = 0; round < 2; round++) {
            Check.due("restore()", x::restore, 1);
            for (int what = 0; what < due.length; what++) {
                int w = what;
                Check.due("restored count(" + what + ")", () -> x.count(w), due[what]);
            }
            Check.due("what is NOTED FITS", () -> x.fits(-1), 11);
            Check.due("who is PICKED", () -> x.pick(0), -1);
            Check.due("the place is not in it", x::fault, 0);
            Check.due("ACTS are as they were", x::undo, 2);
            Check.due("undone", () -> x.count(12), 0);
            Check.due("undo() on", x::undo, 1);
            Check.due("undone on", () -> x.count(8), 0);
            x.load(3);
            x.note(1, 5, 0);
        }
        x.image();
        x.load(4);
        Check.due("in place of another one", x::restore, 1);
        Check.due("the new one", () -> x.count(9), 3);
    }

    private static void imageOfManyActs() {
        ScanPacker x = Texts.of("in a b c d e f;");
        for (int i = 1; i <= 50; i++) {
            x.load(i);
        }
        x.image();
        for (int i = 0; i < 20; i++) {
            x.undo();
        }
        for (int i = 0; i < 30; i++) {
            x.load(60);
        }
        Check.due("restore()", x::restore, 1);
        for (int i = 49; i >= 10; i--) {
            Check.due("undo() to " + i, x::undo, i - 10);
            Check.due("INPUTS " + i, () -> x.count(9), i);
        }
        Check.due("no more", x::undo, -1);
    }

    private static void imageOfNotes() {
        ScanPacker x = twoChains();
        x.pick(3);
        x.note(9, 4, 1);
        x.image();
        x.pick(-1);
        x.pick(5);
        x.forget();
        x.note(9, 4, 0);
        Check.due("others FIT", () -> x.fits(0), 1);
        Check.due("restore()", x::restore, 1);
        fitsAre(x, 0, 0, 6, 9);
        Check.due("3 is PICKED", () -> x.pick(3), -1);
        Check.due("5 isn't", () -> x.pick(5), 2);
    }
}
