/** Parts 3 and 4 of the document and promises 16 to 34: each sentence that names an edge, at it, inside of it, outside. */
final class MachineEdges {
    private static final int MOST = Integer.MAX_VALUE;
    private static final int LEAST = Integer.MIN_VALUE;
    /** From any number but 0 on, all 63 come round, one each TAKEN; 0 stays. */
    private static final String RING = "in a b c d e f;chain a b c d e f;n=xor f e;"
        + "take a n;take b a;take c b;take d c;take e d;take f e;";

    private MachineEdges() {
    }

    static void all() {
        numbersAreZeroFirst();
        putOfPins();
        fillOfThree();
        pickOfFaults();
        defectOfFaults();
        chainsOfOneCell();
        firstGetsItsBit();
        nothingToTake();
        takenAtOnce();
        ownDefect();
        longestChain();
        shorterChainsGetZeros();
        cyclesCount();
        appliedAsTheyAre();
        actsAtMostForty();
        actsThatChangeNothing();
        actsChangeThatAlone();
        undoneLastFirst();
        statusIsNotUndone();
        notedAtMostTen();
        fitsNoneAndAll();
        fitsOfWhat();
        lookNext();
        lookAtFirstOfLikeOnes();
        lookOfWhat();
        forgottenAlone();
        behindUpToForty();
        backUpToSixtyFour();
        tellsUpToSixtyFour();
        yearsUpToSixty();
        drawsOfFour();
        drawsAreBits();
        seedsWrap();
        yearsOfWhat();
        yearsWithoutChains();
        bitsBeyondInputs();
        imageOfNoted();
        imageInPlace();
        imageOfNone();
        restoreOftenAsIs();
    }

    private static ScanPacker twoChains() {
        return Texts.of(NetTests.TWO_CHAINS);
    }

    /** "a number in each INPUT (0 first)", "none first", "CYCLES (0 first)". */
    private static void numbersAreZeroFirst() {
        ScanPacker x = Texts.of("in a b c d e f;n=not a;see n;");
        Check.due("INPUTS", () -> x.count(9), 0);
        for (int input = 0; input < 6; input++) {
            int at = input;
            Check.due("line(" + input + ", 6)", () -> x.line(at, 6), 0);
        }
        Check.due("a GATE", () -> x.line(6, 6), 1);
        Check.due("CYCLES", () -> x.count(10), 0);
        Check.due("DEFECT", () -> x.count(11), -1);
        Check.due("defect() tells none", () -> x.defect(0), -1);
        Check.due("put() tells 0", () -> x.put(5, 1), 0);
        Check.due("bit 5 is INPUT 5", () -> x.count(9), 32);
    }

    /** "A PIN is put": the first INPUT, the last one, to 0 and 1; not the GATE behind them, not what isn't 0 or 1. */
    private static void putOfPins() {
        ScanPacker x = Texts.of("in a b c d e f;g=not a;");
        for (int input = 0; input < 6; input++) {
            int at = input;
            Check.due("put(" + input + ", 1)", () -> x.put(at, 1), 0);
            Check.due("it is", () -> x.count(9), 1 << at);
            Check.due("put(" + input + ", 1) again", () -> x.put(at, 1), 1);
            Check.due("put(" + input + ", 0)", () -> x.put(at, 0), 1);
            Check.due("put(" + input + ", 0) again", () -> x.put(at, 0), 0);
            Check.due("put(" + input + ", 2)", () -> x.put(at, 2), -1);
            Check.due("put(" + input + ", -1)", () -> x.put(at, -1), -1);
        }
        Check.due("a GATE", () -> x.put(6, 0), -1);
        Check.due("no LINE", () -> x.put(7, 0), -1);
        Check.due("NONE", () -> x.put(-1, 0), -1);
        Check.due("STATUS 1", () -> x.count(18), 15);
        Check.due("ACTS", () -> x.count(14), 24);
        Check.due("none is 1", () -> x.count(9), 0);
        ScanPacker y = Texts.of("in a b c;chain b;");
        Check.due("ahead of a CELL", () -> y.put(0, 1), 0);
        Check.due("a CELL", () -> y.put(1, 1), -1);
        Check.due("behind a CELL", () -> y.put(2, 1), 0);
        Check.due("PINS alone", () -> y.count(9), 5);
    }

    /** "FILL is told: what it was. NONE (STATUS 1): not 0 to 2". */
    private static void fillOfThree() {
        ScanPacker x = Texts.of("in a;");
        int[] fills = {0, 1, 2, 2, 1, 0, 2, 0};
        int was = 0;
        for (int fill : fills) {
            int due = was;
            Check.due("fill(" + fill + ")", () -> x.fill(fill), due);
            Check.due("FILL", () -> x.count(4), fill);
            was = fill;
        }
        int[] wrong = {LEAST, -2, -1, 3, 4, MOST};
        for (int fill : wrong) {
            Check.due("fill(" + fill + ")", () -> x.fill(fill), -1);
        }
        Check.due("FILL stays", () -> x.count(4), 0);
        Check.due("STATUS 1", () -> x.count(18), 6);
        Check.due("ACTS", () -> x.count(14), 8);
    }

    /** "A FAULT is PICKED: how many are"; "no such FAULT, LOST, PICKED already, there are 8": 7, 8, 9. */
    private static void pickOfFaults() {
        ScanPacker x = Texts.of("in a b c d e f;see a b d e f;");
        int[] picks = {0, 11, 1, 10, 2, 9, 3};
        for (int i = 0; i < picks.length; i++) {
            int fault = picks[i];
            Check.due("pick(" + fault + ")", () -> x.pick(fault), i + 1);
            Check.due("pick(" + fault + ") again", () -> x.pick(fault), -1);
        }
        int[] wrong = {LEAST, -2, 12, 13, MOST};
        for (int fault : wrong) {
            Check.due("no such FAULT: pick(" + fault + ")", () -> x.pick(fault), -1);
        }
        Check.due("LOST: pick(4)", () -> x.pick(4), -1);
        Check.due("LOST: pick(5)", () -> x.pick(5), -1);
        Check.due("the eighth", () -> x.pick(8), 8);
        Check.due("a ninth", () -> x.pick(7), -1);
        Check.due("there are 8", () -> x.count(12), 8);
        Check.due("STATUS 1", () -> x.count(18), 15);
        Check.due("none any more", () -> x.pick(-1), 0);
        Check.due("there are none", () -> x.count(12), 0);
        Check.due("the ninth is the first", () -> x.pick(7), 1);
        Check.due("who was PICKED may be again", () -> x.pick(0), 2);
    }

    /** "A DEFECT is told (NONE: none): the one there was (NONE)": none, the first one, the last one. */
    private static void defectOfFaults() {
        ScanPacker x = Texts.of("in a b;g=not b;");
        int[] told = {-1, 0, 5, 5, -1, 3, 0, -1};
        int was = -1;
        for (int fault : told) {
            int due = was;
            Check.due("defect(" + fault + ")", () -> x.defect(fault), due);
            Check.due("it is", () -> x.count(11), fault);
            was = fault;
        }
        int[] wrong = {LEAST, -3, -2, 6, 7, MOST};
        for (int fault : wrong) {
            Check.noSuch("defect(" + fault + ")", () -> x.defect(fault));
        }
        Check.due("ACTS", () -> x.count(14), 8);
        Check.due("STATUS 1", () -> x.count(18), 0);
    }

    /** A CHAIN of one CELL: it is the first and the last one. */
    private static void chainsOfOneCell() {
        ScanPacker x = Texts.of("in a b;chain b;");
        Check.due("0 comes out", () -> x.shift(1), 0);
        Check.due("it has 1", () -> x.count(9), 2);
        Check.due("1 comes out", () -> x.shift(0), 1);
        Check.due("it has 0", () -> x.count(9), 0);
        Check.due("load(3) takes one", () -> x.load(3), 1);
        ScanPacker six = Texts.of("in a b c d e f;chain f e d c b a;");
        Check.due("load(63) takes six", () -> six.load(63), 6);
        Check.due("the last of six comes out", () -> six.shift(0), 1);
        Check.due("the first of six gets 0", () -> six.count(9), 31);
    }

    /** "the first what is put in (for CHAIN i bit i); what the last ones had comes out". */
    private static void firstGetsItsBit() {
        String[] chains = {"chain a;", "chain a;chain b;", "chain a;chain b;chain c;"};
        for (int n = 1; n <= 3; n++) {
            int all = (1 << n) - 1;
            for (int in = 0; in < 8; in++) {
                ScanPacker x = Texts.of("in a b c d;" + chains[n - 1]);
                int put = in;
                Check.due("shift(" + in + ") of " + n, () -> x.shift(put), 0);
                Check.due("CELLS", () -> x.count(9), in & all);
                Check.due("comes out of " + n, () -> x.shift(0), in & all);
                Check.due("CELLS", () -> x.count(9), 0);
            }
            ScanPacker x = Texts.of("in a b c d;" + chains[n - 1]);
            int[] refused = {LEAST, -2, -1, 8, 9, MOST};
            for (int in : refused) {
                Check.due("shift(" + in + ")", () -> x.shift(in), -1);
            }
            Check.due("STATUS 1", () -> x.count(18), 6);
        }
    }

    /** "all CELLS that TAKE a LINE": none, some. */
    private static void nothingToTake() {
        ScanPacker x = Texts.of("in a b c;chain a b;g=nor a b;see g;");
        x.load(5);
        Check.due("none", x::take, 5);
        Check.due("CYCLES", () -> x.count(10), 3);
        ScanPacker y = Texts.of("in a b c;chain a b;g=nor c c;take b g;");
        y.load(1);
        Check.due("one of two", y::take, 3);
        ScanPacker z = new ScanPacker();
        Check.due("no INPUTS", z::take, 0);
        Check.due("CYCLES", () -> z.count(10), 1);
    }

    /** "get what that is, at once". */
    private static void takenAtOnce() {
        ScanPacker x = Texts.of("in a b c;chain a b c;take a b;take b c;take c a;");
        x.load(1);
        Check.due("round", x::take, 4);
        Check.due("round", x::take, 2);
        Check.due("round", x::take, 1);
    }

    /** "(by the DEFECT, too; what a CELL has isn't changed by its own DEFECT, what it tells is)". */
    private static void ownDefect() {
        ScanPacker x = Texts.of("in a b p;chain a b;take b a;take a a;see p;");
        x.defect(1);
        Check.due("a has 0", () -> x.count(9), 0);
        Check.due("a tells 1", () -> x.line(0, 6), 1);
        Check.due("what it tells is TAKEN, by itself too", x::take, 3);
        x.defect(0);
        Check.due("a has 1", () -> x.count(9), 3);
        Check.due("a tells 0", () -> x.line(0, 6), 0);
        Check.due("what a has is SHIFTED", () -> x.shift(0), 1);
        Check.due("b has it", () -> x.count(9), 2);
        Check.due("what a tells is TAKEN", x::take, 0);
        x.defect(3);
        Check.due("what b has comes out", () -> x.shift(1), 0);
        x.defect(1);
        Check.due("what a had comes to b", () -> x.shift(0) * 10 + x.count(9), 2);
        Check.due("a tells 1", () -> x.line(0, 6), 1);
        x.defect(2);
        Check.due("what is SHIFTED into b", () -> x.shift(1) * 10 + x.count(9), 11);
        x.shift(1);
        Check.due("b has 1", () -> x.count(9), 3);
        Check.due("b tells 0", () -> x.line(1, 6), 0);
        x.load(0);
        x.defect(5);
        Check.due("what PIN p has was put", () -> x.put(2, 0), 0);
        Check.due("it tells 1", () -> x.line(2, 6), 1);
        Check.due("it has 0", () -> x.count(9) >> 2, 0);
        x.defect(4);
        x.load(7);
        Check.due("LOADED is what they have", () -> x.count(9), 7);
        Check.due("it tells 0", () -> x.line(2, 6), 0);
    }

    /** "as many CYCLES as the longest CHAIN has CELLS". */
    private static void longestChain() {
        String[] chains = {"", "chain a;", "chain a;chain b c;", "chain a b c;chain d;", "chain a;chain b c d e;chain f;",
            "chain a b c d e f;"};
        int[] due = {0, 1, 2, 3, 4, 6};
        for (int i = 0; i < chains.length; i++) {
            ScanPacker x = Texts.of("in a b c d e f;" + chains[i]);
            int cycles = due[i];
            Check.due("load(0) of [" + chains[i] + "]", () -> x.load(0), cycles);
            Check.due("CYCLES", () -> x.count(10), cycles);
            Check.due("load(63) of [" + chains[i] + "]", () -> x.load(63), cycles);
            Check.due("CYCLES", () -> x.count(10), 2 * cycles);
            Check.due("INPUTS", () -> x.count(9), 63);
        }
    }

    /** "(ahead of what a shorter CHAIN gets, 0 is put in); PINS get it at once". */
    private static void shorterChainsGetZeros() {
        ScanPacker x = Texts.of("in a b c d e f;chain a;chain b c d;");
        for (int row = 0; row < 64; row++) {
            int r = row;
            x.load(63 - row);
            Check.due("load(" + row + ")", () -> x.load(r), 3);
            Check.due("it is loaded", () -> x.count(9), row);
        }
    }

    /** "CYCLES: one each that is SHIFTED, TAKEN": no other ACT. */
    private static void cyclesCount() {
        ScanPacker x = twoChains();
        x.put(3, 1);
        x.apply();
        x.defect(3);
        x.fill(2);
        x.pick(0);
        x.note(0, 4, 1);
        x.behind(40);
        x.back();
        x.tells(0);
        x.years(1, 60, 1);
        Check.due("none", () -> x.count(10), 0);
        x.shift(0);
        Check.due("SHIFTED", () -> x.count(10), 1);
        x.take();
        Check.due("TAKEN", () -> x.count(10), 2);
        x.load(0);
        Check.due("LOADED", () -> x.count(10), 4);
        x.load(16);
        x.shift(8);
        Check.due("refused", () -> x.count(10), 4);
        x.undo();
        Check.due("UNDONE", () -> x.count(10), 2);
    }

    /** "FAULTS (no DEFECT being thought of) that are CAUGHT by the INPUTS as they are, are DONE": how many that weren't. */
    private static void appliedAsTheyAre() {
        ScanPacker none = new ScanPacker();
        Check.due("no FAULTS", none::apply, 0);
        ScanPacker lost = Texts.of("in a;");
        Check.due("LOST ones", lost::apply, 0);
        Check.due("none DONE", () -> lost.count(8), 0);
        ScanPacker x = Texts.of("in a b c d e f;see a b c d e f;");
        Check.due("six at 1", x::apply, 6);
        Check.due("none more", x::apply, 0);
        x.load(1);
        Check.due("a at 0", x::apply, 1);
        x.load(63);
        Check.due("five at 0", x::apply, 5);
        Check.due("all DONE", () -> x.count(8), 12);
        ScanPacker y = Texts.of("in a;see a;");
        y.defect(1);
        Check.due("a has 0, though it tells 1", y::apply, 1);
        Check.due("a at 1 is DONE", () -> y.test(1, 4) * 10 + y.test(0, 4), 10);
    }

    /** "ACTS (at most 40 are kept, the latest ones ..)": 39, 40, 41, 42. */
    private static void actsAtMostForty() {
        for (int acts = 38; acts <= 42; acts++) {
            ScanPacker x = Texts.of("in a b c d e f;");
            for (int i = 1; i <= acts; i++) {
                x.load(i);
            }
            int kept = Math.min(acts, 40);
            Check.due("kept of " + acts, () -> x.count(14), kept);
            for (int left = kept - 1; left >= 0; left--) {
                Check.due("left of " + acts, x::undo, left);
            }
            Check.due("the first that isn't kept stays", () -> x.count(9), acts - kept);
            Check.due("none left", x::undo, -1);
            Check.due("none kept", () -> x.count(14), 0);
        }
    }

    private interface Act {
        int of(ScanPacker x);
    }

    private static void changesNothing(String what, Twins.Maker before, Act act, int due) {
        ScanPacker x = before.made();
        int acts = x.count(14);
        Check.due(what, () -> act.of(x), due);
        Check.due(what + ": it is one", () -> x.count(14), acts + 1);
        Check.due(what + ": STATUS", () -> x.count(18), 0);
        Twins.same(what + ", UNDONE", before, () -> {
            ScanPacker y = before.made();
            act.of(y);
            y.undo();
            return y;
        });
    }

    /** "what its call doesn't refuse is one, also where all is as it was". */
    private static void actsThatChangeNothing() {
        Twins.Maker x = MachineEdges::twoChains;
        changesNothing("put(3, 0)", x, y -> y.put(3, 0), 0);
        changesNothing("apply() again", () -> {
            ScanPacker y = twoChains();
            y.apply();
            return y;
        }, ScanPacker::apply, 0);
        changesNothing("defect(NONE)", x, y -> y.defect(-1), -1);
        changesNothing("fill(1)", x, y -> y.fill(1), 1);
        changesNothing("pick(NONE)", x, y -> y.pick(-1), 0);
        Twins.Maker none = () -> Texts.of("in a b;see a;");
        changesNothing("load(0) without CHAINS", none, y -> y.load(0), 0);
        changesNothing("defect(3), twice", () -> {
            ScanPacker y = twoChains();
            y.defect(3);
            return y;
        }, y -> y.defect(3), 3);
        changesNothing("load(0) of an empty NET", ScanPacker::new, y -> y.load(0), 0);
        changesNothing("apply() of an empty NET", ScanPacker::new, ScanPacker::apply, 0);
        changesNothing("take() of an empty NET", ScanPacker::new, ScanPacker::take, 0);
    }

    /** What may be counted of the MACHINE, what is NOTED, the tape and STATUS. */
    private static final int[] COUNTED = {4, 8, 9, 10, 11, 12, 15, 16, 17, 18, 19};

    private static void changes(String what, Act act, int... due) {
        ScanPacker x = inUse();
        int[] before = new int[COUNTED.length];
        for (int i = 0; i < before.length; i++) {
            before[i] = x.count(COUNTED[i]);
        }
        act.of(x);
        for (int i = 0; i < before.length; i++) {
            int counted = COUNTED[i];
            int was = before[i];
            boolean changes = false;
            for (int each : due) {
                changes |= each == counted;
            }
            String said = what + (changes ? " changes" : " leaves") + " count(" + counted + ")";
            Check.due(said, () -> x.count(counted) == was ? 0 : 1, changes ? 1 : 0);
        }
    }

    private static ScanPacker inUse() {
        ScanPacker x = twoChains();
        Texts.net(x, "@");
        x.load(9);
        x.apply();
        x.pick(4);
        x.defect(7);
        x.put(0, 1);
        x.note(0, 4, 1);
        x.note(0, 0, 1);
        x.load(8);
        Texts.feed(x, "in q;");
        return x;
    }

    /** "ACTS: a PIN is put, SHIFTED, TAKEN, LOADED, APPLIED, a DEFECT is told, .. FILL ..": each changes that alone. */
    private static void actsChangeThatAlone() {
        changes("put", x -> x.put(3, 0), 9);
        changes("shift", x -> x.shift(1), 9, 10);
        changes("take", ScanPacker::take, 9, 10);
        changes("load", x -> x.load(7), 9, 10);
        changes("apply", ScanPacker::apply, 8);
        changes("defect", x -> x.defect(3), 11);
        changes("defect of none", x -> x.defect(-1), 11);
        changes("fill", x -> x.fill(0), 4);
        changes("pick", x -> x.pick(0), 12);
        changes("pick of none", x -> x.pick(-1), 12);
        changes("undo of load", ScanPacker::undo, 9, 10);
        changes("note", x -> x.note(1, 4, 0), 15);
        changes("a note that is refused", x -> x.note(1, 4, 2), 19);
        changes("an ACT that is refused", x -> x.put(0, 0), 18);
        changes("a TEXT with a FAULT", x -> x.net(4), 16, 17);
        changes("feed", x -> x.feed(0, 0, 0, 0, 0), 16);
    }

    /** "(at most 40 are kept ..) They are UNDONE": STATUS, what is NOTED, the tape and its place aren't ACTS. */
    private static void statusIsNotUndone() {
        ScanPacker y = inUse();
        y.put(0, 1);
        y.note(1, 4, 2);
        y.note(1, 4, 0);
        int[] due = {20, 1, 2, 2};
        for (int i = 0; i < 6; i++) {
            y.undo();
            for (int k = 0; k < due.length; k++) {
                int what = 16 + k;
                Check.due("undo() leaves count(" + what + ")", () -> y.count(what), due[k]);
            }
            Check.due("undo() leaves NOTED", () -> y.count(15), 2);
            Check.due("undo() leaves the place", y::fault, 0);
        }
        Check.due("nothing is left to be UNDONE", y::undo, -1);
    }

    /** "They are UNDONE, the last one first"; "how many are left. NONE: there is none". */
    private static void undoneLastFirst() {
        Act[] acts = {y -> y.put(3, 1), y -> y.shift(3), ScanPacker::take, y -> y.load(9), ScanPacker::apply,
            y -> y.defect(9), y -> y.fill(2), y -> y.pick(1), y -> y.pick(-1)};
        for (int n = 0; n <= acts.length; n++) {
            int many = n;
            Twins.same("all of " + n + " UNDONE", MachineEdges::twoChains, () -> {
                ScanPacker y = twoChains();
                for (int i = 0; i < many; i++) {
                    acts[i].of(y);
                }
                for (int i = 0; i < many; i++) {
                    y.undo();
                }
                return y;
            });
            Twins.same("one of " + (n + 1) + " UNDONE", () -> done(acts, many), () -> {
                ScanPacker y = done(acts, many);
                acts[many % acts.length].of(y);
                y.undo();
                return y;
            });
        }
        ScanPacker x = twoChains();
        Check.due("none", x::undo, -1);
        Check.due("none again", x::undo, -1);
        Check.due("no STATUS", () -> x.count(17) + x.count(18) + x.count(19), 0);
        x.fill(2);
        Check.due("one", x::undo, 0);
        Check.due("none left", x::undo, -1);
    }

    private static ScanPacker done(Act[] acts, int many) {
        ScanPacker y = twoChains();
        for (int i = 0; i < many; i++) {
            acts[i].of(y);
        }
        return y;
    }

    /** "NOTED (at most 10)": 9, 10, 11; "there are 10, no such ROW, no SEEN LINE, not 0 or 1". */
    private static void notedAtMostTen() {
        ScanPacker x = twoChains();
        for (int i = 1; i <= 10; i++) {
            Check.due("note() " + i, () -> x.note(0, 4, 1), i);
            Check.due("NOTED", () -> x.count(15), i);
        }
        Check.due("the 11th", () -> x.note(0, 4, 1), -1);
        Check.due("the 12th", () -> x.note(0, 4, 1), -1);
        Check.due("ten stay", () -> x.count(15), 10);
        Check.due("STATUS 2", () -> x.count(19), 2);
        x.forget();
        Check.due("from the first again", () -> x.note(0, 4, 0), 1);
        Check.due("STATUS 2 stays", () -> x.count(19), 2);
        // the tenth counts, too: only g at 0 is so
        ScanPacker y = twoChains();
        for (int i = 0; i < 9; i++) {
            y.note(0, 5, 0);
        }
        Check.due("without any", () -> y.fits(-2), 1);
        y.note(0, 4, 0);
        Check.due("by the tenth", () -> y.fits(-2), 0);
        Check.due("g at 0", () -> y.fits(0), 8);
    }

    /** "FITS: .. how many; the i-th; and whether it would be without any": all, none; LOST ones, ALIKE ones, too. */
    private static void fitsNoneAndAll() {
        ScanPacker none = new ScanPacker();
        Check.due("no FAULTS", () -> none.fits(-1), 0);
        Check.due("without any", () -> none.fits(-2), 1);
        Check.noSuch("no first one", () -> none.fits(0));
        ScanPacker x = Texts.of("in a b;g=not a;see g;");
        Check.due("all", () -> x.fits(-1), 6);
        Check.due("the first", () -> x.fits(0), 0);
        Check.due("the last", () -> x.fits(5), 5);
        x.note(0, 2, 0);
        Check.due("a at 1 and g at 0, which are ALIKE", () -> x.fits(-1) * 100 + x.fits(0) * 10 + x.fits(1), 214);
        Check.due("not without any", () -> x.fits(-2), 0);
        x.note(0, 2, 1);
        Check.due("both at once: none", () -> x.fits(-1), 0);
        Check.due("not without any", () -> x.fits(-2), 0);
        Check.noSuch("no first one", () -> x.fits(0));
        x.forget();
        x.note(1, 2, 0);
        Check.due("a at 1, b at 0 and 1, which are LOST, g at 0", () -> x.fits(-1), 4);
        int[] due = {1, 2, 3, 4};
        for (int i = 0; i < 4; i++) {
            int at = i;
            Check.due("fits(" + i + ")", () -> x.fits(at), due[i]);
        }
    }

    /** Promise 26: "there is none". */
    private static void fitsOfWhat() {
        ScanPacker x = twoChains();
        int[] none = {LEAST, -4, -3, 12, 13, MOST};
        for (int i : none) {
            Check.noSuch("fits(" + i + ")", () -> x.fits(i));
        }
        Check.due("fits(-2)", () -> x.fits(-2), 1);
        Check.due("fits(-1)", () -> x.fits(-1), 12);
        Check.due("fits(0)", () -> x.fits(0), 0);
        Check.due("fits(11)", () -> x.fits(11), 11);
        ScanPacker sound = Texts.of("in a;see a;");
        sound.note(0, 0, 0);
        Check.noSuch("behind the last one, though it FITS without any", () -> sound.fits(1));
    }

    private static void lookIs(String what, ScanPacker x, int row, int unlike) {
        Check.due(what + ": look(0)", () -> x.look(0), row);
        Check.due(what + ": look(1)", () -> x.look(1), unlike);
    }

    /** "most unlike by FITS, and without any, if that fits: how many unlike; none without any of these". */
    private static void lookNext() {
        lookIs("without any alone", new ScanPacker(), 0, 1);
        ScanPacker x = Texts.of("in a;g=not a;see g;");
        lookIs("all and without any", x, 0, 2);
        x.note(0, 1, 1);
        // left: a at 0, g at 1, which are ALIKE, and without any: told by 1
        lookIs("three", x, 1, 2);
        x.note(1, 1, 1);
        lookIs("two ALIKE ones", x, 0, 1);
        x.note(0, 1, 0);
        lookIs("none of these", x, -1, 0);
        ScanPacker lost = Texts.of("in a;");
        lookIs("nothing is SEEN", lost, 0, 1);
        ScanPacker all = Texts.of("in a b c d e f;see a b c d e f;");
        lookIs("each of six and without any", all, 0, 7);
        all.note(1, 0, 0);
        lookIs("a at 0 alone", all, 0, 1);
        // left: a, b at 1, b at 0, g at 1, and without any, which by 0 is as b at 0, else as a at 1
        ScanPacker or = Texts.of("in a b;g=or a b;see g;");
        or.note(1, 2, 1);
        lookIs("as one here, as another one there", or, 0, 2);
    }

    /** "(of like ones the least number)". */
    private static void lookAtFirstOfLikeOnes() {
        ScanPacker x = Texts.of("in a b;g=and a b;see g;");
        x.note(0, 2, 0);
        // by 1 b at 1, by 2 a at 1, by 3 a, b, g at 0 are told; by 0 none is
        lookIs("1, 2 and 3 are like ones", x, 1, 2);
        x.note(1, 2, 0);
        lookIs("2 and 3 are", x, 2, 2);
        x.note(2, 2, 0);
        lookIs("3 is the last ROW", x, 3, 2);
        x.note(3, 2, 1);
        lookIs("none tells more", x, 0, 1);
    }

    /** Promise 27: "another what". */
    private static void lookOfWhat() {
        ScanPacker x = twoChains();
        int[] others = {LEAST, -2, -1, 2, 3, MOST};
        for (int what : others) {
            Check.noSuch("look(" + what + ")", () -> x.look(what));
        }
        for (int i = 0; i < 2; i++) {
            x.note(9, 4, i);
        }
        for (int what : others) {
            Check.noSuch("none of these: look(" + what + ")", () -> x.look(what));
        }
    }

    private static ScanPacker noted(boolean more) {
        ScanPacker x = inUse();
        x.image();
        x.forget();
        x.pick(8);
        x.shift(2);
        if (more) {
            x.note(9, 4, 0);
            x.note(9, 5, 1);
            x.forget();
        }
        return x;
    }

    /** Promise 28: "All that is NOTED is forgotten": that alone, and it is no ACT. */
    private static void forgottenAlone() {
        Twins.same("forget()", () -> noted(false), () -> noted(true));
        Twins.same("forget() of none", () -> noted(true), () -> {
            ScanPacker x = noted(true);
            x.forget();
            return x;
        });
        ScanPacker x = noted(true);
        Check.due("none is NOTED", () -> x.count(15), 0);
        Check.due("ACTS", () -> x.count(14), 7);
        Check.due("PICKED", () -> x.count(12), 2);
        Check.due("in the IMAGE one is NOTED", () -> x.restore() ? x.count(15) : -1, 1);
    }

    /** "BEHIND n (0 to 40) times TAKEN". */
    private static void behindUpToForty() {
        ScanPacker x = Texts.of(MachineTests.COUNTER);
        int[] well = {0, 1, 2, 39, 40};
        for (int n : well) {
            Check.due("behind(" + n + ")", () -> x.behind(n), n);
        }
        int[] wrong = {LEAST, -2, -1, 41, 42, MOST};
        for (int n : wrong) {
            Check.illegal("behind(" + n + ")", () -> x.behind(n));
        }
        ScanPacker none = new ScanPacker();
        Check.due("no INPUTS: behind(40)", () -> none.behind(40), 0);
        Check.illegal("no INPUTS: behind(41)", () -> none.behind(41));
        ScanPacker y = Texts.of("in a;chain a;take a a;");
        y.defect(1);
        Check.due("none TAKEN: what it has", () -> y.behind(0), 0);
        Check.due("one TAKEN: what it tells", () -> y.behind(1), 1);
    }

    /** "the least n above 0 (at most 64) behind which INPUTS are as now": 1, 2, 63, 64, none. */
    private static void backUpToSixtyFour() {
        Check.due("64", () -> Texts.of(MachineTests.COUNTER).back(), 64);
        ScanPacker x = Texts.of(RING);
        Check.due("0 stays", x::back, 1);
        for (int row = 1; row < 64; row++) {
            int r = row;
            x.load(row);
            Check.due("63 from " + row, x::back, 63);
            Check.due("not there behind 40", () -> x.behind(40) == r ? 1 : 0, 0);
        }
        ScanPacker y = Texts.of("in a b;chain a b;n=not b;take a n;take b a;");
        Check.due("4", y::back, 4);
        ScanPacker z = Texts.of("in a;chain a;n=xor a a;take a n;");
        Check.due("0 stays", z::back, 1);
        z.load(1);
        Check.due("1 doesn't come again", z::back, -1);
        Check.due("no INPUTS", () -> new ScanPacker().back(), 1);
    }

    /** "the least n (0 to 64) times TAKEN ahead of which a SEEN LINE is another one": 0, 1, 62, 63, none. */
    private static void tellsUpToSixtyFour() {
        ScanPacker x = Texts.of(MachineTests.COUNTER);
        Check.due("z at 1 at once", () -> x.tells(33), 0);
        Check.due("z at 0 by 63", () -> x.tells(32), 63);
        x.load(1);
        Check.due("z at 0 from 1 on", () -> x.tells(32), 62);
        x.load(62);
        Check.due("z at 0 from 62 on", () -> x.tells(32), 1);
        x.load(63);
        Check.due("z at 0 from 63 on", () -> x.tells(32), 0);
        ScanPacker y = Texts.of("in a b;chain a;take a a;");
        Check.due("b isn't SEEN", () -> y.tells(3), -1);
        Check.due("a at 1", () -> y.tells(1), 0);
        Check.due("a at 0: never 1", () -> y.tells(0), -1);
        int[] none = {LEAST, -2, -1, 4, 5, MOST};
        for (int fault : none) {
            Check.noSuch("tells(" + fault + ")", () -> y.tells(fault));
        }
        Check.noSuch("no FAULTS", () -> new ScanPacker().tells(0));
    }

    private static int stirred(int seed) {
        return (int) (seed * 1103515245L + 12345L);
    }

    private static int drawn(int seed, int n) {
        return (int) ((seed & 0xFFFFFFFFL) / 65536 % 32768 % n);
    }

    /** A seed that draws these, each of one number, one after the other. */
    private static int seedOf(int[] numbers, int[] draws) {
        for (int seed = 0; seed < 10000000; seed++) {
            int next = stirred(seed);
            int i = 0;
            while (i < draws.length && drawn(next, numbers[i]) == draws[i]) {
                next = stirred(next);
                i++;
            }
            if (i == draws.length) {
                return seed;
            }
        }
        return -1;
    }

    /** "n (0 to 60) times": 0, 1, 59, 60; not -1, 61. */
    private static void yearsUpToSixty() {
        ScanPacker x = twoChains();
        x.load(9);
        x.apply();
        Check.due("none: DONE", () -> x.years(5, 0, 0), 6);
        Check.due("none: CYCLES", () -> x.years(5, 0, 1), 0);
        Check.due("none: INPUTS", () -> x.years(5, 0, 2), 9);
        int[] wrong = {LEAST, -2, -1, 61, 62, MOST};
        for (int n : wrong) {
            for (int what = 0; what < 3; what++) {
                int w = what;
                Check.illegal("years(1, " + n + ", " + what + ")", () -> x.years(1, n, w));
            }
        }
        // a CYCLE of a CHAIN of one CELL is a year that isn't APPLIED
        for (int n : new int[] {1, 2, 59, 60}) {
            ScanPacker y = Texts.of("in a;chain a;");
            int cycles = 0;
            int next = 77;
            for (int i = 0; i < n; i++) {
                next = stirred(next);
                int what = drawn(next, 4);
                next = what == 0 || what == 2 ? stirred(next) : next;
                cycles += what == 3 ? 0 : 1;
            }
            int due = cycles;
            Check.due("CYCLES of " + n, () -> y.years(77, n, 1), due);
        }
    }

    /** "a DRAW of 4: 0 SHIFTED with a DRAW of 8; 1 TAKEN; 2 a ROW LOADED: a DRAW of 64; 3 APPLIED". */
    private static void drawsOfFour() {
        for (int in = 0; in < 8; in++) {
            int seed = seedOf(new int[] {4, 8}, new int[] {0, in});
            ScanPacker x = Texts.of("in a b c d;chain a b;chain c;chain d;");
            int due = (in & 1) + (in & 6) * 2;
            Check.due("SHIFTED with " + in, () -> x.years(seed, 1, 2), due);
            Check.due("a CYCLE", () -> x.years(seed, 1, 1), 1);
        }
        int take = seedOf(new int[] {4}, new int[] {1});
        ScanPacker x = Texts.of("in a;chain a;n=not a;take a n;");
        Check.due("TAKEN", () -> x.years(take, 1, 2), 1);
        Check.due("a CYCLE", () -> x.years(take, 1, 1), 1);
        Check.due("none DONE", () -> x.years(take, 1, 0), 0);
        for (int row = 0; row < 64; row += 9) {
            int seed = seedOf(new int[] {4, 64}, new int[] {2, row});
            ScanPacker y = Texts.of("in a b c d e f;chain a;chain b c;");
            int due = row;
            Check.due("LOADED " + row, () -> y.years(seed, 1, 2), due);
            Check.due("two CYCLES", () -> y.years(seed, 1, 1), 2);
        }
        int apply = seedOf(new int[] {4}, new int[] {3});
        ScanPacker z = Texts.of("in a b;see a b;");
        Check.due("APPLIED", () -> z.years(apply, 1, 0), 2);
        Check.due("no CYCLE", () -> z.years(apply, 1, 1), 0);
        Check.due("INPUTS as they are", () -> z.years(apply, 1, 2), 0);
        int loadAndApply = seedOf(new int[] {4, 64, 4, 4}, new int[] {2, 1, 3, 3});
        Check.due("LOADED, then APPLIED: a at 0, b at 1", () -> z.years(loadAndApply, 2, 0), 2);
        Check.due("APPLIED twice", () -> z.years(loadAndApply, 3, 0), 2);
        z.apply();
        Check.due("those that were DONE, too", () -> z.years(loadAndApply, 2, 0), 3);
        z.defect(0);
        Check.due("no DEFECT is thought of", () -> z.years(loadAndApply, 2, 0), 3);
    }

    /** "a DRAW of n is its bits 16 to 30 MOD n then": bit 31 counts for nothing, bit 30 does, so do all from 16 on. */
    private static void drawsAreBits() {
        ScanPacker x = Texts.of("in a b c d e f;");
        for (int bits = 0; bits < 64; bits++) {
            int row = bits;
            int seed = seedOf(new int[] {4, 64}, new int[] {2, row});
            int[] seeds = {seed, seed + LEAST};
            for (int each : seeds) {
                Check.due("a DRAW of 64 that is " + row + " by " + each, () -> x.years(each, 1, 2), row);
            }
        }
    }

    /** "(an int that wraps)": seeds at the ends. */
    private static void seedsWrap() {
        int[] seeds = {0, 1, -1, MOST, LEAST, MOST - 1, LEAST + 1, 1103515245, -1103515245, -12345};
        ScanPacker x = Texts.of("in a b c d e f;chain a b;n=not b;take a n;see a b c n;");
        for (int seed : seeds) {
            for (int n : new int[] {1, 2, 3, 30, 60}) {
                ScanPacker y = Texts.of("in a b c d e f;chain a b;n=not b;take a n;see a b c n;");
                MachineTests.live(y, seed, n);
                Check.due("years(" + seed + ", " + n + ", 0)", () -> x.years(seed, n, 0), y.count(8));
                Check.due("years(" + seed + ", " + n + ", 1)", () -> x.years(seed, n, 1), y.count(10));
                Check.due("years(" + seed + ", " + n + ", 2)", () -> x.years(seed, n, 2), y.count(9));
            }
        }
    }

    /** Promise 32: "another what. IllegalArgumentException (behind that): n". */
    private static void yearsOfWhat() {
        ScanPacker x = twoChains();
        int[] others = {LEAST, -2, -1, 3, 4, MOST};
        int[] numbers = {LEAST, -1, 0, 60, 61, MOST};
        for (int what : others) {
            for (int n : numbers) {
                Check.noSuch("years(1, " + n + ", " + what + ")", () -> x.years(1, n, what));
            }
        }
        Check.illegal("years(1, 61, 2)", () -> x.years(1, 61, 2));
        Check.due("years(1, 0, 2)", () -> x.years(1, 0, 2), 0);
    }

    /** "0 SHIFTED with a DRAW of 8 (drawn all the same without CHAINS, which does nothing)". */
    private static void yearsWithoutChains() {
        ScanPacker x = Texts.of("in a b c d e f;see a;");
        int seed = seedOf(new int[] {4, 8, 4, 64}, new int[] {0, 5, 2, 37});
        Check.due("drawn, but no CYCLE", () -> x.years(seed, 1, 1), 0);
        Check.due("INPUTS stay", () -> x.years(seed, 1, 2), 0);
        Check.due("what is drawn then", () -> x.years(seed, 2, 2), 37);
        Check.due("no CYCLE of a ROW either", () -> x.years(seed, 2, 1), 0);
        ScanPacker none = new ScanPacker();
        for (int what = 0; what < 3; what++) {
            int w = what;
            Check.due("no INPUTS, no CHAINS: at most what is TAKEN", () -> none.years(seed, 2, w), 0);
        }
    }

    /** "(its bits beyond INPUTS count for nothing)". */
    private static void bitsBeyondInputs() {
        int seed = seedOf(new int[] {4, 64}, new int[] {2, 63});
        for (int n = 1; n <= 6; n++) {
            ScanPacker x = Texts.of("in" + " a b c d e f".substring(0, 2 * n) + ";");
            int all = (1 << n) - 1;
            Check.due("63 of " + n + " INPUTS", () -> x.years(seed, 1, 2), all);
        }
        Check.due("63 of no INPUTS", () -> new ScanPacker().years(seed, 1, 2), 0);
        int above = seedOf(new int[] {4, 64}, new int[] {2, 32});
        Check.due("32 of 5 INPUTS", () -> Texts.of("in a b c d e;").years(above, 1, 2), 0);
        Check.due("32 of 6 INPUTS", () -> Texts.of("in a b c d e f;").years(above, 1, 2), 32);
    }

    /** "AN IMAGE keeps .. what is NOTED": each ROW, LINE and number, the first and the tenth. */
    private static void imageOfNoted() {
        Twins.Maker before = () -> {
            ScanPacker x = twoChains();
            x.note(9, 4, 1);
            for (int i = 0; i < 8; i++) {
                x.note(i, 4, 1);
            }
            x.note(15, 5, 1);
            x.image();
            return x;
        };
        Check.due("ten are NOTED", () -> before.made().count(15), 10);
        int[][] others = {{9, 5, 1}, {9, 4, 0}, {8, 4, 1}, {0, 5, 1}, {0, 5, 0}};
        for (int[] other : others) {
            Twins.sameButTape("restore() of what was NOTED", before, () -> {
                ScanPacker x = before.made();
                x.forget();
                for (int i = 0; i < 10; i++) {
                    x.note(other[0], other[1], other[2]);
                }
                x.restore();
                return x;
            });
            Twins.sameButTape("restore() of none NOTED", MachineEdges::imageAtOnce, () -> {
                ScanPacker x = imageAtOnce();
                for (int i = 0; i < 10; i++) {
                    x.note(other[0], other[1], other[2]);
                }
                x.restore();
                return x;
            });
        }
    }

    private static ScanPacker imageAtOnce() {
        ScanPacker x = twoChains();
        x.image();
        return x;
    }

    /** "AN IMAGE is kept, in place of another one". */
    private static void imageInPlace() {
        ScanPacker x = Texts.of("in a b c d e f;");
        x.load(1);
        x.image();
        x.load(2);
        x.image();
        x.load(3);
        Check.due("restore()", x::restore, 1);
        Check.due("the latest one", () -> x.count(9), 2);
        Check.due("its ACTS", x::undo, 1);
        Check.due("restore() again", x::restore, 1);
        Check.due("the latest one", () -> x.count(9), 2);
    }

    /** "False: there is none": of a new object, of a new NET; not where net() had a FAULT. */
    private static void imageOfNone() {
        ScanPacker x = new ScanPacker();
        Check.due("of a new object", x::restore, 0);
        x.image();
        Check.due("kept", x::restore, 1);
        x.net(0);
        Check.due("of a new NET", x::restore, 0);
        x.image();
        Texts.net(x, "@");
        Check.due("of the NET that stays", x::restore, 1);
        Check.illegal("net(1)", () -> x.net(1));
        Check.due("of the NET that stays", x::restore, 1);
    }

    /** "AN IMAGE keeps all that ACTS change, ACTS that are kept, what is NOTED, STATUS". */
    private static void restoreOftenAsIs() {
        Twins.Maker before = () -> {
            ScanPacker x = twoChains();
            Texts.net(x, ";");
            x.load(9);
            x.apply();
            x.pick(0);
            x.put(0, 0);
            x.note(0, 4, 1);
            x.note(0, 0, 0);
            x.image();
            return x;
        };
        Twins.same("restore() at once", before, () -> {
            ScanPacker x = before.made();
            x.restore();
            return x;
        });
        Twins.sameButTape("restore() behind many calls", before, () -> changed(before));
        Twins.statusIs("restore() behind many calls", before, () -> changed(before), -1);
    }

    private static ScanPacker changed(Twins.Maker before) {
        ScanPacker x = before.made();
        for (int i = 0; i < 45; i++) {
            x.load(i % 16);
            x.apply();
        }
        x.defect(3);
        x.fill(0);
        x.pick(-1);
        x.pick(5);
        x.put(0, 0);
        x.forget();
        for (int i = 0; i < 12; i++) {
            x.note(9, 4, 1);
        }
        Texts.net(x, "@");
        x.restore();
        return x;
    }
}
