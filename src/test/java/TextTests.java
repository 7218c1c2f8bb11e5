/** Promises 1 to 4: a new object, the tape, TEXTS and their FAULTS. */
final class TextTests {
    private static final String SIX = "in a b c d e f";

    private TextTests() {
    }

    static void all() {
        newObject();
        tape();
        bytesInOrder();
        refusedNumbers();
        wellTold();
        outOfPlace();
        tooMuch();
        notTold();
        already();
        allAnew();
        allStaysWithFault();
        nothingLeftOfOtherTexts();
        nothingLeftInNumbers();
        endsWithin();
    }

    private static void newObject() {
        ScanPacker x = new ScanPacker();
        for (int what = 0; what < 20; what++) {
            int w = what;
            Check.due("new count(" + what + ")", () -> x.count(w), what == 11 ? -1 : 0);
        }
        Check.due("new fault", x::fault, -1);
        Check.due("new undo", x::undo, -1);
        Check.due("new restore", x::restore, 0);
        Check.due("new back", x::back, 1);
        Check.due("new look(0)", () -> x.look(0), 0);
        Check.due("new look(1)", () -> x.look(1), 1);
        Check.due("new load(0)", () -> x.load(0), 0);
        Check.noSuch("new line", () -> x.line(0, 0));
        Check.noSuch("new chain", () -> x.chain(0, -1));
        Check.noSuch("new program", () -> x.program(0, 0));
    }

    private static void tape() {
        ScanPacker x = new ScanPacker();
        for (int i = 1; i <= 45; i++) {
            Check.due("feed " + i, () -> x.feed(0, 0, 0, 0, 0), 20 * i);
        }
        Check.due("feed beyond 900", () -> x.feed(0, 0, 0, 0, 0), -1);
        Check.due("tape is full", () -> x.count(16), 900);
        Check.due("net(900)", () -> x.net(900), 1);
        Check.due("its place", x::fault, 0);
        Check.due("tape is empty", () -> x.count(16), 0);
        String full = "in a b c d e f;see a b c d e f;" + " ".repeat(869);
        Check.due("net of 900 bytes", () -> Texts.net(x, full), 0);
        Check.due("six INPUTS", () -> x.count(0), 6);
        Check.due("feed isn't in STATUS", () -> x.count(17) + x.count(18) + x.count(19), 1);
    }

    private static void bytesInOrder() {
        ScanPacker x = new ScanPacker();
        x.feed(0x696E2061, 0x3B673D6E, 0x6F742061, 0x3B736565, 0x20673BFF);
        Check.due("in a;g=not a;see g;", () -> x.net(19), 0);
        Check.due("its GATE", () -> x.line(1, 0), 0);
        x.feed(0x20202080, -1, -1, -1, -1);
        Check.due("byte 128", () -> x.net(20), 1);
        Check.due("its place", x::fault, 3);
        x.feed(0x20202020, 0x0A0A0A0A, 0x20202020, 0x20202020, 0x202020FF);
        Check.due("blanks", () -> x.net(19), 0);
        x.feed(0x0D202020, 0, 0, 0, 0);
        Check.due("13 is no blank", () -> x.net(4), 1);
        Check.due("its place", x::fault, 0);
    }

    private static void refusedNumbers() {
        ScanPacker x = Texts.of("in a;see a;");
        Texts.net(x, "in a");
        x.put(0, 1);
        x.feed(0, 0, 0, 0, 0);
        Check.illegal("net(21)", () -> x.net(21));
        Check.illegal("net(-1)", () -> x.net(-1));
        Check.illegal("net(least)", () -> x.net(Integer.MIN_VALUE));
        Check.illegal("net(most)", () -> x.net(Integer.MAX_VALUE));
        Check.due("tape stays", () -> x.count(16), 20);
        Check.due("place stays", x::fault, 4);
        Check.due("STATUS stays", () -> x.count(17), 1);
        Check.due("INPUTS stay", () -> x.count(9), 1);
        Check.due("net(0)", () -> x.net(0), 0);
        Check.due("tape is empty", () -> x.count(16), 0);
        Check.due("no LINES", () -> x.count(5), 0);
        Check.due("no place", x::fault, -1);
    }

    private static void well(String text) {
        ScanPacker x = new ScanPacker();
        Check.due("[" + text + "]", () -> Texts.net(x, text), 0);
        Check.due("[" + text + "] place", x::fault, -1);
        Check.due("[" + text + "] STATUS", () -> x.count(17), 0);
    }

    private static void wrong(String text, int fault, int place) {
        ScanPacker x = new ScanPacker();
        Check.due("[" + text + "]", () -> Texts.net(x, text), fault);
        Check.due("[" + text + "] place", x::fault, place);
        Check.due("[" + text + "] STATUS", () -> x.count(17), 1);
    }

    private static void wellTold() {
        well("");
        well(" \n ");
        well("in abcdef;");
        well("in ins ii inn;");
        well("in a;in b;see a;in c;");
        well("fill 2;in a;");
        well("fill0;");
        well("in a;g=and a a;h=xor g g g;");
        well("in\na\n;\ng\n=\nnot\na\n;");
        well("in a;chain a;take a a;see a;");
        well("in a;chain a;see a;take a a;");
        well("in a b;chain a b;take a a;take b a;");
        well(SIX + ";chain a;chain b;chain c d e f;");
        well("in a;" + gates(16) + "see xp;");
    }

    private static String gates(int n) {
        StringBuilder text = new StringBuilder();
        for (int i = 0; i < n; i++) {
            text.append('x').append((char) ('a' + i)).append("=not a;");
        }
        return text.toString();
    }

    private static void outOfPlace() {
        wrong("in", 1, 2);
        wrong("in ;", 1, 3);
        wrong("in a", 1, 4);
        wrong("in a  \n", 1, 7);
        wrong("in and;", 1, 3);
        wrong("in a 1;", 1, 5);
        wrong("in a in b;", 1, 5);
        wrong("ina;", 1, 3);
        wrong("@", 1, 0);
        wrong(";", 1, 0);
        wrong("=", 1, 0);
        wrong("5", 1, 0);
        wrong("in a;A", 1, 5);
        wrong("in a;\tsee a;", 1, 5);
        wrong("in a{;", 1, 4);
        wrong("in `a;", 1, 3);
        wrong("fill /;", 1, 5);
        wrong("fill :;", 1, 5);
        wrong("see;", 1, 3);
        wrong("in a;see a", 1, 10);
        wrong("in a;see chain;", 1, 9);
        wrong("in a;chain a see;", 1, 13);
        wrong("in a;chain", 1, 10);
        wrong("in a;chain;", 1, 10);
        wrong("in a;not = not a;", 1, 5);
        wrong("in a;g not a;", 1, 7);
        wrong("in a;g = a;", 1, 9);
        wrong("in a;g = nots a;", 1, 9);
        wrong("in a;g = abcdefgh a;", 1, 9);
        wrong("in a;g = in a;", 1, 9);
        wrong("in a;g=nota;", 1, 7);
        wrong("in a;g = not;", 1, 12);
        wrong("in a;g = and a;", 1, 14);
        wrong("in a;g = nor;", 1, 12);
        wrong("in a;g = and a and;", 1, 15);
        wrong("in a;g = not a a;", 1, 15);
        wrong("in a;g = not a abcdefg;", 1, 15);
        wrong("in a;g = not a zz;", 1, 15);
        wrong("in a b c d;g = and a b c d;", 1, 25);
        wrong("in a;g = not a;in b;", 1, 15);
        wrong("in a;chain a;take a;", 1, 19);
        wrong("in a;chain a;take a a a;", 1, 22);
        wrong("in a;chain a;take a a", 1, 21);
        wrong("in a;chain a;take a or;", 1, 20);
        wrong("fill;", 1, 4);
        wrong("fill", 1, 4);
        wrong("fill a;", 1, 5);
        wrong("fill 1", 1, 6);
        wrong("fill 1 2;", 1, 7);
        wrong("fill 1a;", 1, 6);
        wrong(SIX + " and;", 1, 15);
        wrong("in a;" + gates(16) + "not", 1, 149);
        wrong("in a;" + gates(16) + "in", 1, 149);
    }

    private static void tooMuch() {
        wrong("in abcdefg;", 2, 3);
        wrong("abcdefg = not a;", 2, 0);
        wrong("in a;see abcdefg;", 2, 9);
        wrong("in a;see a abcdefg;", 2, 11);
        wrong("in a;g=and a abcdefghijk;", 2, 13);
        wrong("in a;chain abcdefg;", 2, 11);
        wrong("in a;chain a;take abcdefg a;", 2, 18);
        wrong("in a;chain a;take a abcdefg;", 2, 20);
        wrong("in a;chain a;take a chainin;", 2, 20);
        wrong(SIX + " g;", 2, 15);
        wrong(SIX + " a;", 2, 15);
        wrong("in a b c;in d e f g;", 2, 18);
        wrong("in a;" + gates(16) + "y", 2, 149);
        wrong("in a;" + gates(16) + "xa=not a;", 2, 149);
        wrong("in a b c d;chain a;chain b;chain c;chain d;", 2, 35);
        wrong("in a b c d;chain a;chain b;chain c;chain", 2, 35);
        wrong("fill 3;", 2, 5);
        wrong("fill 10;", 2, 5);
        wrong("fill 00;", 2, 5);
        wrong("fill 99999999999999999999;", 2, 5);
    }

    private static void notTold() {
        wrong("in a;see b;", 3, 9);
        wrong("in a;g = not g;", 3, 13);
        wrong("in a;g = and a h;h = not a;", 3, 15);
        wrong("g = not a;in a;", 3, 8);
        wrong("in a;g = not a;chain g;", 3, 21);
        wrong("chain a;", 3, 6);
        wrong("in a;take a a;", 3, 10);
        wrong("in a;take b a;", 3, 10);
        wrong("in a;g = not a;take g a;", 3, 20);
        wrong("in a b;chain a;take b a;chain b;", 3, 20);
        wrong("in a;chain a;take a b;", 3, 20);
        wrong("in aa;see a;", 3, 10);
        wrong("in a;see aa;", 3, 9);
    }

    private static void already() {
        wrong("in a a;", 4, 5);
        wrong("in a;in a;", 4, 8);
        wrong("in a;a = not a;", 4, 5);
        wrong("in a;g = not a;g = not a;", 4, 15);
        wrong("in a;see a a;", 5, 11);
        wrong("in a;see a;see a;", 5, 15);
        wrong("in a;chain a a;", 5, 13);
        wrong("in a b;chain a;chain b a;", 5, 23);
        wrong("in a;chain a;take a a;take a a;", 5, 27);
        wrong("fill 1;fill 1;", 5, 7);
        wrong("fill 0;fill", 5, 7);
    }

    private static void allAnew() {
        ScanPacker x = Texts.of("in a b;chain a;g=and a b;take a g;see g;fill 2;");
        Texts.net(x, ";");
        x.put(0, 1);
        x.note(9, 9, 9);
        x.put(1, 1);
        x.shift(1);
        x.apply();
        x.defect(0);
        x.fill(1);
        x.pick(0);
        x.note(3, 2, 1);
        x.image();
        Check.due("net anew", () -> Texts.net(x, "in p q r;g = or p q;see g;"), 0);
        int[] due = {3, 1, 1, 0, 0, 8, 2, 4, 0, 0, 0, -1, 0, 3, 0, 0, 0, 1, 1, 1};
        for (int what = 0; what < due.length; what++) {
            int w = what;
            Check.due("anew count(" + what + ")", () -> x.count(w), due[what]);
        }
        Check.due("no CELLS any more", () -> x.put(0, 1), 0);
        Check.due("no LINE is TAKEN any more", () -> x.line(0, 5), 0);
        Check.due("image is gone", x::restore, 0);
        x.undo();
        Check.due("ACTS are gone", x::undo, -1);
    }

    /** NETS one behind the other, also behind a text that breaks off, are as in a new object. */
    private static void nothingLeftOfOtherTexts() {
        ScanPacker x = new ScanPacker();
        String[] texts = {
            "in a b c d e f;chain a b;chain c d;chain e f;g=nand a b c;h=or g d;see a b c d e f g;take a h;fill 2;",
            "in a b;chain b;g=not b;see g a;",
            "in a b c d;g=xor a b c;h=not g;see a b h;chain a b c;take a h;fill 1;@",
            "in a b c;chain c;k=or a b;m=not k;see m;",
            "in a b c;g=and a b c;chain a;chain b;chain c;fill 2;see a;take a a",
            "fill 0;in a;see a;",
            "in p q r s;"
        };
        for (String text : texts) {
            ScanPacker y = new ScanPacker();
            Check.due("net of [" + text + "]", () -> Texts.net(x, text), Texts.net(y, text));
            if (y.fault() == -1) {
                same(text, x, y);
            }
            x.count(13);
        }
    }

    /** Every second net is laid over what an earlier one left. */
    private static void nothingLeftInNumbers() {
        ScanPacker x = Texts.of("in a b;chain a b;");
        Texts.net(x, "in a b c;see c;");
        Texts.net(x, "in a b;chain a;see b;fill 2;");
        Check.due("an earlier CELL isn't what is set next", () -> x.program(0, 0), 2);
        Texts.net(x, "in a;g=not a;");
        Check.due("a GATE where a PIN was", () -> x.put(1, 1), -1);
        Texts.net(x, "in a b;chain b;chain a;see b;");
        Texts.net(x, "in a b;see b;");
        Check.due("no COST of CHAINS that were", () -> x.program(0, 2), 0);
    }

    /** What is on the tape behind the text's end is no part of its last TOKEN. */
    private static void endsWithin() {
        ScanPacker x = new ScanPacker();
        Texts.feed(x, "in a;abcdefgh");
        Check.due("the word ends with the text", () -> x.net(6), 4);
        Check.due("its place", x::fault, 5);
        Texts.feed(x, "fill 12;");
        Check.due("the NUMBER ends with the text", () -> x.net(6), 1);
        Check.due("its place", x::fault, 6);
        Texts.feed(x, "fill 1;in a;");
        Check.due("the sign ends the text", () -> x.net(7), 0);
        Check.due("no INPUTS", () -> x.count(0), 0);
        Check.due("a word ends 900 bytes", () -> Texts.net(x, " ".repeat(895) + "in ab"), 1);
        Check.due("its place", x::fault, 900);
        Check.due("a NUMBER ends 900 bytes", () -> Texts.net(x, " ".repeat(893) + "fill 22"), 2);
        Check.due("its place", x::fault, 898);
    }

    private static void same(String text, ScanPacker x, ScanPacker y) {
        for (int what = 0; what < 17; what++) {
            int w = what;
            Check.due("[" + text + "] count(" + what + ")", () -> x.count(w), y.count(w));
        }
        for (int i = 0; i < 4; i++) {
            for (int k = -1; k < 10; k++) {
                int at = i;
                int w = k;
                Check.due("line", () -> x.line(at, w), Check.answerOf(() -> y.line(at, w)));
                Check.due("chain", () -> x.chain(at, w), Check.answerOf(() -> y.chain(at, w)));
                Check.due("program", () -> x.program(at, w), Check.answerOf(() -> y.program(at, w)));
                Check.due("test", () -> x.test(w, at), Check.answerOf(() -> y.test(w, at)));
                Check.due("cube", () -> x.cube(w, at), Check.answerOf(() -> y.cube(w, at)));
                Check.due("order", () -> x.order(at, w), Check.answerOf(() -> y.order(at, w)));
            }
        }
    }

    private static void allStaysWithFault() {
        ScanPacker x = Texts.of("in a b;chain a;g=and a b;take a g;see g;fill 2;");
        x.put(1, 1);
        x.shift(1);
        x.apply();
        x.defect(0);
        x.pick(0);
        x.note(3, 2, 1);
        x.image();
        x.fill(1);
        Check.due("text with a FAULT", () -> Texts.net(x, "in p q r;g = or p q;see g;fill 0;chain x;"), 3);
        int[] due = {2, 1, 1, 1, 1, 6, 0, 4, 3, 3, 1, 0, 1, 2, 6, 1, 0, 1, 0, 0};
        for (int what = 0; what < due.length; what++) {
            int w = what;
            Check.due("stays count(" + what + ")", () -> x.count(w), due[what]);
        }
        Check.due("place", x::fault, 39);
        Check.due("names stay", () -> x.letter(0, 0), 1);
        Check.due("ACTS stay", x::undo, 5);
        Check.due("image stays", x::restore, 1);
        Check.due("STATUS is as in the image", () -> x.count(17), 0);
        Check.due("place is not in the image", x::fault, 39);
    }
}
