import java.util.List;

/** Whether two objects are alike in all that can be asked. */
final class Twins {
    private Twins() {
    }

    /** Makes an object anew, each time with the same calls. */
    interface Maker {
        ScanPacker made();
    }

    interface Question {
        void put(ScanPacker x, Answers answers);
    }

    static final class Answers {
        private final StringBuilder all = new StringBuilder();

        void add(Check.Call call) {
            all.append(Check.answerOf(call).replace("throws.", "")).append(' ');
        }

        void say(int answer) {
            all.append(answer).append(' ');
        }
    }

    private record Named(String name, Question question) { }

    /** Each is put to an object of its own, so that what one of them changes counts for it alone. */
    private static final List<Named> QUESTIONS = List.of(
        new Named("counts", Twins::counts), new Named("lines", Twins::lines), new Named("tests", Twins::tests),
        new Named("rows", Twins::rows), new Named("program", Twins::program), new Named("picked", Twins::picked),
        new Named("noted", Twins::noted), new Named("ahead", Twins::ahead), new Named("years", Twins::years),
        new Named("acts", Twins::acts), new Named("image", Twins::image), new Named("image's acts", Twins::actsOfImage),
        new Named("image's picked", Twins::pickedOfImage));

    private static final List<Named> TAPE = List.of(
        new Named("place", (x, a) -> a.add(x::fault)), new Named("tape", Twins::tape));

    private static final Named STATUS = new Named("STATUS", (x, a) -> {
        a.add(() -> x.count(17));
        a.add(() -> x.count(18));
        a.add(() -> x.count(19));
    });

    /** In all. */
    static void same(String what, Maker one, Maker other) {
        sameButTape(what, one, other);
        ask(what, TAPE, one, other);
        ask(what, List.of(STATUS), one, other);
    }

    /** In all but tape, place, STATUS. */
    static void sameButTape(String what, Maker one, Maker other) {
        ask(what, QUESTIONS, one, other);
    }

    /** In all, but that the other one has one more in STATUS (NONE: it hasn't). */
    static void sameButStatus(String what, Maker one, Maker other, int more) {
        sameButTape(what, one, other);
        ask(what, TAPE, one, other);
        statusIs(what, one, other, more);
    }

    static void statusIs(String what, Maker one, Maker other, int more) {
        ScanPacker x = one.made();
        ScanPacker y = other.made();
        for (int i = 0; i < 3; i++) {
            int status = 17 + i;
            Check.due(what + ": STATUS " + i, () -> y.count(status), x.count(status) + (i == more ? 1 : 0));
        }
    }

    private static void ask(String what, List<Named> questions, Maker one, Maker other) {
        for (Named named : questions) {
            Answers due = new Answers();
            named.question.put(one.made(), due);
            Answers got = new Answers();
            named.question.put(other.made(), got);
            Check.that(what + ": " + named.name, got.all.toString(), due.all.toString());
        }
    }

    private static void counts(ScanPacker x, Answers a) {
        for (int what = 0; what < 16; what++) {
            int w = what;
            a.add(() -> x.count(w));
        }
    }

    private static void lines(ScanPacker x, Answers a) {
        for (int line = 0; line < x.count(0) + x.count(1); line++) {
            int at = line;
            for (int what = 0; what < 10; what++) {
                int w = what;
                a.add(() -> x.line(at, w));
            }
            a.add(() -> x.letter(at, 0));
            a.add(() -> x.letter(at, 1));
        }
        for (int chain = 0; chain < x.count(3); chain++) {
            int at = chain;
            for (int i = -1; i < x.count(0); i++) {
                int k = i;
                a.add(() -> x.chain(at, k));
            }
        }
    }

    private static void tests(ScanPacker x, Answers a) {
        for (int fault = 0; fault < x.count(5); fault++) {
            int f = fault;
            for (int what = 0; what < 6; what++) {
                int w = what;
                a.add(() -> x.test(f, w));
            }
        }
    }

    private static void rows(ScanPacker x, Answers a) {
        for (int fault = 0; fault < x.count(5); fault++) {
            int f = fault;
            for (int input = 0; input < x.count(0); input++) {
                int at = input;
                a.add(() -> x.cube(f, at));
            }
            for (int i = 0; i < 5; i++) {
                int at = i;
                a.add(() -> x.row(f, at));
            }
        }
    }

    private static void program(ScanPacker x, Answers a) {
        for (int i = 0; i < x.count(13) + 1; i++) {
            int at = i;
            for (int what = 0; what < 4; what++) {
                int w = what;
                a.add(() -> x.program(at, w));
            }
        }
        for (int chain = 0; chain < x.count(3); chain++) {
            int at = chain;
            for (int i = -1; i < x.count(0); i++) {
                int k = i;
                a.add(() -> x.order(at, k));
            }
        }
    }

    /** Behind pack() all FAULTS are tried, so that those that are PICKED tell themselves. */
    private static void picked(ScanPacker x, Answers a) {
        for (int i = -1; i < 9; i++) {
            int at = i;
            a.add(() -> x.pack(at));
        }
        for (int fault = 0; fault < x.count(5); fault++) {
            int f = fault;
            a.add(() -> x.pick(f));
        }
    }

    private static void noted(ScanPacker x, Answers a) {
        a.add(() -> x.count(15));
        for (int i = -2; i <= x.count(5); i++) {
            int at = i;
            a.add(() -> x.fits(at));
        }
        a.add(() -> x.look(0));
        a.add(() -> x.look(1));
    }

    private static void ahead(ScanPacker x, Answers a) {
        for (int n = 0; n <= 40; n++) {
            int at = n;
            a.add(() -> x.behind(at));
        }
        a.add(x::back);
        for (int fault = 0; fault < x.count(5); fault++) {
            int f = fault;
            a.add(() -> x.tells(f));
        }
    }

    private static void years(ScanPacker x, Answers a) {
        for (int seed = -5; seed < 5; seed++) {
            int s = seed * 1000003;
            for (int what = 0; what < 3; what++) {
                int w = what;
                a.add(() -> x.years(s, 20, w));
            }
        }
    }

    private static void machine(ScanPacker x, Answers a) {
        int[] whats = {4, 8, 9, 10, 11, 12, 13, 14};
        for (int what : whats) {
            a.add(() -> x.count(what));
        }
    }

    private static void acts(ScanPacker x, Answers a) {
        int left = 0;
        machine(x, a);
        for (int i = 0; i < 42 && left != -1; i++) {
            left = x.undo();
            a.say(left);
            machine(x, a);
        }
    }

    private static void tape(ScanPacker x, Answers a) {
        a.add(() -> x.count(16));
        a.add(() -> x.net(x.count(16)));
        a.add(x::fault);
        lines(x, a);
    }

    private static void image(ScanPacker x, Answers a) {
        boolean restored = x.restore();
        a.add(() -> restored);
        counts(x, a);
        noted(x, a);
        program(x, a);
        if (restored) {
            STATUS.question.put(x, a);
        }
    }

    private static void actsOfImage(ScanPacker x, Answers a) {
        a.add(x::restore);
        acts(x, a);
    }

    private static void pickedOfImage(ScanPacker x, Answers a) {
        a.add(x::restore);
        picked(x, a);
    }
}
