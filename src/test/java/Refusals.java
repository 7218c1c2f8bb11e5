import java.util.List;

/**
 * Each call that is refused, and each that only asks: what it answers, whether STATUS counts it, and that all else is
 * as it was (what can be asked, what is UNDONE next, what the IMAGE has), by a second object without that call.
 */
final class Refusals {
    private static final String NO_SUCH = "throws.NoSuchElementException";
    private static final String ILLEGAL = "throws.IllegalArgumentException";
    private static final int NOT_COUNTED = -1;
    private static final int TEXTS = 0;
    private static final int ACTS = 1;
    private static final int NOTES = 2;
    private static final int MOST = Integer.MAX_VALUE;
    private static final int LEAST = Integer.MIN_VALUE;

    private interface Asked {
        Object of(ScanPacker x);
    }

    private record Refused(String what, Asked call, String due, int counted) { }

    private Refusals() {
    }

    static void all() {
        acts();
        eightPicked();
        tenNoted();
        throwing();
        throwingByEmptyNet();
        asking();
        noneToUndo();
        noImage();
        fullTape();
        textsWithFaults();
        numbersOfNet();
        numbersFarOff();
    }

    /** All is in use: ACTS, DONE, a DEFECT, PICKED, NOTED, an IMAGE that is otherwise, STATUS, a place, the tape. */
    private static ScanPacker busy() {
        ScanPacker x = Texts.of(NetTests.TWO_CHAINS);
        Texts.net(x, "in a;see b;");
        x.load(9);
        x.apply();
        x.pick(4);
        x.note(0, 4, 1);
        x.put(0, 0);
        x.note(0, 0, 0);
        x.image();
        x.put(3, 0);
        x.shift(2);
        x.pick(8);
        x.fill(2);
        x.note(3, 5, 1);
        x.defect(7);
        x.put(6, 1);
        Texts.feed(x, "in q r s;see q r s; ");
        return x;
    }

    /** As busy, with 40 ACTS, eight PICKED and ten NOTED. */
    private static ScanPacker full() {
        ScanPacker x = busy();
        int[] more = {0, 1, 2, 3, 5, 6};
        for (int fault : more) {
            x.pick(fault);
        }
        for (int i = 0; i < 8; i++) {
            x.note(15, 4, 0);
        }
        for (int i = 0; i < 40; i++) {
            x.load(i % 16);
        }
        return x;
    }

    private static ScanPacker lost() {
        ScanPacker x = Texts.of("in a b c;chain a;see b;");
        x.load(5);
        x.image();
        x.pick(2);
        x.shift(1);
        return x;
    }

    private static void check(Refused refused, Twins.Maker before) {
        ScanPacker x = before.made();
        Check.due(refused.what, () -> refused.call.of(x), refused.due);
        Twins.sameButStatus(refused.what, before, () -> {
            ScanPacker y = before.made();
            Check.answerOf(() -> refused.call.of(y));
            return y;
        }, refused.counted);
    }

    private static void checkAll(Twins.Maker before, List<Refused> all) {
        for (Refused refused : all) {
            check(refused, before);
        }
    }

    private static Refused act(String what, Asked call) {
        return new Refused(what, call, "-1", ACTS);
    }

    private static Refused note(String what, Asked call) {
        return new Refused(what, call, "-1", NOTES);
    }

    private static Refused noSuch(String what, Asked call) {
        return new Refused(what, call, NO_SUCH, NOT_COUNTED);
    }

    private static Refused illegal(String what, Asked call) {
        return new Refused(what, call, ILLEGAL, NOT_COUNTED);
    }

    /** Promises 16, 17, 19, 22, 23: "NONE (STATUS 1)"; promise 25: "NONE (STATUS 2)". */
    private static void acts() {
        checkAll(Refusals::busy, List.of(
            act("put: the first CELL", x -> x.put(0, 1)), act("put: the last CELL", x -> x.put(2, 1)),
            act("put: a GATE", x -> x.put(4, 1)), act("put: the last GATE", x -> x.put(5, 0)),
            act("put: no LINE", x -> x.put(6, 1)), act("put: NONE", x -> x.put(-1, 1)),
            act("put: 2", x -> x.put(3, 2)), act("put: -1", x -> x.put(3, -1)),
            act("put: a CELL, 2", x -> x.put(0, 2)), act("shift(8)", x -> x.shift(8)),
            act("shift(-1)", x -> x.shift(-1)), act("load(16)", x -> x.load(16)), act("load(-1)", x -> x.load(-1)),
            act("fill(3)", x -> x.fill(3)), act("fill(-1)", x -> x.fill(-1)),
            act("pick(12)", x -> x.pick(12)), act("pick(-2)", x -> x.pick(-2)),
            act("pick(4) again", x -> x.pick(4)), act("pick(8) again", x -> x.pick(8))));
        checkAll(Refusals::busy, List.of(
            note("note: ROW 16", x -> x.note(16, 4, 0)), note("note: ROW -1", x -> x.note(-1, 4, 0)),
            note("note: a CELL", x -> x.note(0, 0, 0)), note("note: a PIN", x -> x.note(0, 3, 0)),
            note("note: LINE 6", x -> x.note(0, 6, 0)), note("note: LINE -1", x -> x.note(0, -1, 0)),
            note("note: 2", x -> x.note(0, 4, 2)), note("note: -1", x -> x.note(0, 4, -1)),
            note("note: all wrong", x -> x.note(16, 6, 2))));
        checkAll(Refusals::lost, List.of(
            act("pick: LOST", x -> x.pick(0)), act("pick: LOST, the last", x -> x.pick(5)),
            act("put: the CELL", x -> x.put(0, 0)), act("put: behind the last INPUT", x -> x.put(3, 0)),
            act("shift(8) of one CHAIN", x -> x.shift(8)), act("load(8)", x -> x.load(8))));
        checkAll(ScanPacker::new, List.of(
            act("no INPUTS: put(0, 0)", x -> x.put(0, 0)), act("no CHAINS: shift(0)", x -> x.shift(0)),
            act("no CHAINS: shift(7)", x -> x.shift(7)), act("no INPUTS: load(1)", x -> x.load(1)),
            act("no FAULTS: pick(0)", x -> x.pick(0)), note("no LINES: note(0, 0, 0)", x -> x.note(0, 0, 0))));
        checkAll(() -> Texts.of("in a;see a;"), List.of(
            act("INPUTS without CHAINS: shift(0)", x -> x.shift(0)), act("put(0, 2)", x -> x.put(0, 2))));
    }

    /** Promise 23: "there are 8": the ninth, also where ACTS are as many as are kept. */
    private static void eightPicked() {
        Check.due("eight are PICKED", () -> full().count(12), 8);
        Check.due("40 ACTS", () -> full().count(14), 40);
        checkAll(Refusals::full, List.of(
            act("pick: a ninth", x -> x.pick(7)), act("pick: another ninth", x -> x.pick(11)),
            act("pick: the first again", x -> x.pick(4)), act("full: shift(8)", x -> x.shift(8)),
            act("full: load(16)", x -> x.load(16)), act("full: put(0, 1)", x -> x.put(0, 1)),
            act("full: fill(3)", x -> x.fill(3))));
        checkAll(Refusals::full, List.of(
            noSuch("full: defect(12)", x -> x.defect(12)), noSuch("full: pack(8)", x -> x.pack(8))));
    }

    /** Promise 25: "there are 10". */
    private static void tenNoted() {
        Check.due("ten are NOTED", () -> full().count(15), 10);
        checkAll(Refusals::full, List.of(
            note("note: an 11th", x -> x.note(0, 4, 1)), note("note: an 11th as the tenth", x -> x.note(15, 4, 0)),
            note("note: an 11th of ROW 16", x -> x.note(16, 4, 0))));
    }

    /** "(not counted where an exception tells it)". */
    private static void throwing() {
        checkAll(Refusals::busy, List.of(
            noSuch("count(-1)", x -> x.count(-1)), noSuch("count(20)", x -> x.count(20)),
            noSuch("line(6, 0)", x -> x.line(6, 0)), noSuch("line(-1, 0)", x -> x.line(-1, 0)),
            noSuch("line(0, 10)", x -> x.line(0, 10)), noSuch("line(0, -1)", x -> x.line(0, -1)),
            noSuch("letter(5, 2)", x -> x.letter(5, 2)), noSuch("letter(6, 0)", x -> x.letter(6, 0)),
            noSuch("chain(2, -1)", x -> x.chain(2, -1)), noSuch("chain(1, 1)", x -> x.chain(1, 1)),
            noSuch("test(12, 0)", x -> x.test(12, 0)), noSuch("test(0, 6)", x -> x.test(0, 6)),
            noSuch("row(0, 4)", x -> x.row(0, 4)), noSuch("row(12, 0)", x -> x.row(12, 0)),
            noSuch("cube(0, 4)", x -> x.cube(0, 4)), noSuch("cube(12, 0)", x -> x.cube(12, 0)),
            noSuch("by: no FAULT", x -> x.by(81, 12, 0)), noSuch("by: no LINE", x -> x.by(81, 0, 6)),
            illegal("by: no ROW", x -> x.by(81, 11, 5)), noSuch("program(9, 0)", x -> x.program(9, 0)),
            noSuch("program(0, 4)", x -> x.program(0, 4)), noSuch("order(2, 0)", x -> x.order(2, 0))));
        checkAll(Refusals::busy, List.of(
            noSuch("order(0, 2)", x -> x.order(0, 2)), noSuch("pack(2)", x -> x.pack(2)),
            noSuch("pack(-2)", x -> x.pack(-2)), noSuch("defect(12)", x -> x.defect(12)),
            noSuch("defect(-2)", x -> x.defect(-2)), noSuch("fits(-3)", x -> x.fits(-3)),
            noSuch("fits(12)", x -> x.fits(12)), noSuch("look(2)", x -> x.look(2)),
            noSuch("look(-1)", x -> x.look(-1)), illegal("behind(41)", x -> x.behind(41)),
            illegal("behind(-1)", x -> x.behind(-1)), noSuch("tells(12)", x -> x.tells(12)),
            noSuch("tells(-1)", x -> x.tells(-1)), noSuch("years: what 3", x -> x.years(1, 61, 3)),
            illegal("years: 61", x -> x.years(1, 61, 2)), illegal("years: -1", x -> x.years(1, -1, 0))));
    }

    private static void throwingByEmptyNet() {
        checkAll(ScanPacker::new, List.of(
            noSuch("empty: line(0, 0)", x -> x.line(0, 0)), noSuch("empty: letter(0, 0)", x -> x.letter(0, 0)),
            noSuch("empty: chain(0, -1)", x -> x.chain(0, -1)), noSuch("empty: test(0, 0)", x -> x.test(0, 0)),
            noSuch("empty: row(0, 0)", x -> x.row(0, 0)), noSuch("empty: cube(0, 0)", x -> x.cube(0, 0)),
            noSuch("empty: by(0, -1, 0)", x -> x.by(0, -1, 0)), noSuch("empty: by(9, 0, 0)", x -> x.by(9, 0, 0)),
            noSuch("empty: program(0, 0)", x -> x.program(0, 0)), noSuch("empty: order(0, -1)", x -> x.order(0, -1)),
            noSuch("empty: pack(0)", x -> x.pack(0)), noSuch("empty: defect(0)", x -> x.defect(0)),
            noSuch("empty: fits(0)", x -> x.fits(0)), noSuch("empty: tells(0)", x -> x.tells(0)),
            illegal("empty: behind(41)", x -> x.behind(41)), illegal("empty: years", x -> x.years(1, 61, 0))));
    }

    private static Refused asks(String what, Asked call, int due) {
        return new Refused(what, call, String.valueOf(due), NOT_COUNTED);
    }

    /** "nothing stays"; "All as ever behind it". */
    private static void asking() {
        checkAll(Refusals::busy, List.of(
            asks("fault()", ScanPacker::fault, 9), asks("count(13)", x -> x.count(13), 2),
            asks("line(4, 6)", x -> x.line(4, 6), 1), asks("letter(5, 1)", x -> x.letter(5, 1), 8),
            asks("chain(0, -1)", x -> x.chain(0, -1), 2), asks("test(11, 3)", x -> x.test(11, 3), 0),
            asks("row(8, 11)", x -> x.row(8, 11), 14), asks("cube(8, 0)", x -> x.cube(8, 0), 0),
            asks("by(80, 9, 4)", x -> x.by(80, 9, 4), 1), asks("program(0, 3)", x -> x.program(0, 3), 4),
            asks("order(0, -1)", x -> x.order(0, -1), 2), asks("pack(-1)", x -> x.pack(-1), 1),
            asks("fits(-2)", x -> x.fits(-2), 1), asks("look(0)", x -> x.look(0), 1),
            asks("behind(40)", x -> x.behind(40), 6), asks("back()", ScanPacker::back, 1),
            asks("tells(11)", x -> x.tells(11), -1)));
        for (int what = 0; what < 3; what++) {
            int w = what;
            for (int seed = 0; seed < 5; seed++) {
                int s = seed;
                int due = busy().years(s, 60, w);
                check(asks("years(" + s + ", 60, " + w + ")", x -> x.years(s, 60, w), due), Refusals::busy);
                int dueOfFull = full().years(s, 60, w);
                check(asks("full: years(" + s + ", 60, " + w + ")", x -> x.years(s, 60, w), dueOfFull), Refusals::full);
            }
        }
        check(asks("by, to and fro", x -> x.by(0, 0, 0) + x.by(80, 11, 5) * 2, 2), Refusals::busy);
        check(asks("full: look(1)", x -> x.look(1), full().look(1)), Refusals::full);
    }

    /** Promise 24: "NONE: there is none"; no STATUS. */
    private static void noneToUndo() {
        Twins.Maker none = () -> {
            ScanPacker x = busy();
            for (int i = 0; i < 40; i++) {
                x.undo();
            }
            return x;
        };
        check(asks("undo() of none left", ScanPacker::undo, -1), none);
        check(asks("undo() of a new object", ScanPacker::undo, -1), ScanPacker::new);
        check(asks("undo() of a new NET", ScanPacker::undo, -1), () -> Texts.of(NetTests.TWO_CHAINS));
    }

    /** Promise 34: "False: there is none". */
    private static void noImage() {
        Twins.Maker none = () -> {
            ScanPacker x = Texts.of(NetTests.TWO_CHAINS);
            x.load(9);
            x.apply();
            x.note(0, 4, 1);
            x.pick(3);
            x.put(0, 0);
            Texts.feed(x, "in q;");
            return x;
        };
        check(new Refused("restore() of none", ScanPacker::restore, "0", NOT_COUNTED), none);
        check(new Refused("restore() of a new object", ScanPacker::restore, "0", NOT_COUNTED), ScanPacker::new);
    }

    private static ScanPacker withFullTape() {
        ScanPacker x = Texts.of(NetTests.TWO_CHAINS);
        x.load(9);
        x.image();
        x.put(3, 0);
        Texts.feed(x, "in q r s;see q r;" + " ".repeat(881) + "@ ");
        return x;
    }

    /** Promise 2: "NONE, and none come, if it would have more than 900"; no STATUS. */
    private static void fullTape() {
        Check.due("900 bytes", () -> withFullTape().count(16), 900);
        check(asks("feed() beyond 900", x -> x.feed(-1, -1, -1, -1, -1), -1), Refusals::withFullTape);
        check(asks("feed() beyond 900, twice", x -> x.feed(0, 0, 0, 0, 0) + x.feed(-1, 0, 0, 0, 0), -2),
            Refusals::withFullTape);
        Check.due("its last bytes are in their places", () -> withFullTape().net(899), 1);
    }

    private static void textWithFault(String text, int fault, int place) {
        ScanPacker x = withoutTape();
        Check.due("[" + text + "]", () -> Texts.net(x, text), fault);
        Check.due("[" + text + "] place", x::fault, place);
        Check.due("[" + text + "] tape", () -> x.count(16), 0);
        Twins.Maker behind = () -> {
            ScanPacker y = withoutTape();
            Texts.net(y, text);
            return y;
        };
        Twins.sameButTape("[" + text + "]", Refusals::withoutTape, behind);
        Twins.statusIs("[" + text + "]", Refusals::withoutTape, behind, TEXTS);
    }

    private static ScanPacker withoutTape() {
        ScanPacker x = Texts.of(NetTests.TWO_CHAINS);
        x.load(9);
        x.apply();
        x.pick(4);
        x.note(0, 4, 1);
        x.image();
        x.put(3, 0);
        x.shift(2);
        x.fill(2);
        x.defect(7);
        x.note(3, 5, 1);
        return x;
    }

    /** Promise 3: "the FAULT (all else stays, but STATUS)": FAULTS of each kind, also at the end of a whole NET. */
    private static void textsWithFaults() {
        textWithFault("@", 1, 0);
        textWithFault("in q", 1, 4);
        textWithFault("in q r s t u v w;", 2, 15);
        textWithFault("in q;chain q;take q t;", 3, 20);
        textWithFault("in q;q=not q;", 4, 5);
        textWithFault("in q;see q;fill 2;chain q;take q q;see q;", 5, 39);
        textWithFault("in q r s;g=and q r s;chain s r q;take q g;see g;fill 1;h=not", 1, 60);
    }

    /** Promise 3: "IllegalArgumentException: the tape has not so many, n below 0 (nothing changes)". */
    private static void numbersOfNet() {
        int[] wrong = {LEAST, -2, -1, 21, 22, 900, 901, MOST};
        for (int n : wrong) {
            check(illegal("net(" + n + ") of 20", x -> x.net(n)), Refusals::busy);
        }
        check(illegal("net(901) of 900", x -> x.net(901)), Refusals::withFullTape);
        check(illegal("net(-1) of 900", x -> x.net(-1)), Refusals::withFullTape);
        check(illegal("net(1) of none", x -> x.net(1)), ScanPacker::new);
        check(illegal("net(1) of none any more", x -> x.net(1)), Refusals::withoutTape);
    }

    /** The ends of int, wherever a number is told. */
    private static void numbersFarOff() {
        int[] far = {LEAST, LEAST + 1, -65536, -64, -63, -32, 32, 44, 63, 64, 65, 729, 65536, MOST - 1, MOST};
        for (int n : far) {
            ScanPacker x = busy();
            Check.noSuch("count(" + n + ")", () -> x.count(n));
            Check.noSuch("line(" + n + ", 0)", () -> x.line(n, 0));
            Check.noSuch("line(0, " + n + ")", () -> x.line(0, n));
            Check.noSuch("letter(" + n + ", 0)", () -> x.letter(n, 0));
            Check.noSuch("letter(0, " + n + ")", () -> x.letter(0, n));
            Check.noSuch("chain(" + n + ", 0)", () -> x.chain(n, 0));
            Check.noSuch("chain(0, " + n + ")", () -> x.chain(0, n));
            Check.noSuch("test(" + n + ", 0)", () -> x.test(n, 0));
            Check.noSuch("test(0, " + n + ")", () -> x.test(0, n));
            Check.noSuch("row(" + n + ", 0)", () -> x.row(n, 0));
            Check.noSuch("row(0, " + n + ")", () -> x.row(0, n));
            Check.noSuch("cube(" + n + ", 0)", () -> x.cube(n, 0));
            Check.noSuch("cube(0, " + n + ")", () -> x.cube(0, n));
            Check.noSuch("by(0, " + n + ", 0)", () -> x.by(0, n, 0));
            Check.noSuch("by(0, 0, " + n + ")", () -> x.by(0, 0, n));
            Check.noSuch("program(" + n + ", 0)", () -> x.program(n, 0));
            Check.noSuch("program(0, " + n + ")", () -> x.program(0, n));
            Check.noSuch("order(" + n + ", 0)", () -> x.order(n, 0));
            Check.noSuch("order(0, " + n + ")", () -> x.order(0, n));
            Check.noSuch("pack(" + n + ")", () -> x.pack(n));
            Check.noSuch("defect(" + n + ")", () -> x.defect(n));
            Check.noSuch("fits(" + n + ")", () -> x.fits(n));
            Check.noSuch("look(" + n + ")", () -> x.look(n));
            Check.noSuch("tells(" + n + ")", () -> x.tells(n));
            Check.noSuch("years(0, 0, " + n + ")", () -> x.years(0, 0, n));
            int status = x.count(18);
            Check.due("put(" + n + ", 0)", () -> x.put(n, 0), -1);
            Check.due("put(3, " + n + ")", () -> x.put(3, n), -1);
            Check.due("shift(" + n + ")", () -> x.shift(n), -1);
            Check.due("load(" + n + ")", () -> x.load(n), -1);
            Check.due("fill(" + n + ")", () -> x.fill(n), -1);
            Check.due("pick(" + n + ")", () -> x.pick(n), -1);
            Check.due("STATUS 1", () -> x.count(18), status + 6);
            int noted = x.count(19);
            Check.due("note(" + n + ", 4, 0)", () -> x.note(n, 4, 0), -1);
            Check.due("note(0, " + n + ", 0)", () -> x.note(0, n, 0), -1);
            Check.due("note(0, 4, " + n + ")", () -> x.note(0, 4, n), -1);
            Check.due("STATUS 2", () -> x.count(19), noted + 3);
        }
        int[] wide = {LEAST, -1, 81, 729, MOST};
        for (int n : wide) {
            Check.illegal("by(" + n + ", NONE, 0)", () -> busy().by(n, -1, 0));
            Check.illegal("behind(" + n + ")", () -> busy().behind(n));
            Check.illegal("years(0, " + n + ", 0)", () -> busy().years(0, n, 0));
        }
    }
}
