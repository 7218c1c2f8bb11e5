/** Part 1 of the document and promises 1 to 4: each sentence that names an edge, at it, inside of it and outside. */
final class TextEdges {
    private static final String[] KINDS = {"not", "and", "or", "xor", "nand", "nor"};
    private static final String[] HEADS = {"in", "see", "chain", "take", "fill"};

    private TextEdges() {
    }

    static void all() {
        inputsAtMostSix();
        gatesAtMostSixteen();
        linesOfAGate();
        oneLineTwice();
        toldAhead();
        chainsAtMostThree();
        atLeastOneCell();
        cellOfOneChainAtMost();
        cellMayTake();
        fillIsThree();
        lettersAreAToZ();
        blanksAreTwo();
        digitsOfFill();
        longestRow();
        blanksCountForNothing();
        clausesAreAnyNumber();
        listsOfAtLeastOne();
        exactlyOneEach();
        namesOfSixLetters();
        namesAreNoQuotedWords();
        linesAreNoQuotedWords();
        inAheadOfAllGates();
        firstAlongTheText();
        leastOfOneToken();
        endsTooSoon();
        tooLongWords();
        numbersOfFill();
        notToldAhead();
        noInputThatIsOne();
        noCellSoFar();
        namesThatAre();
        alreadySo();
        seenAndTaken();
        textOfNineHundred();
        feedUpToNineHundred();
        highestByteFirst();
        netOfSoMany();
        placeOfTheLatest();
        newObject();
        allAnew();
        lastCall();
    }

    private static void well(String text, int inputs, int gates, int chains) {
        ScanPacker x = new ScanPacker();
        Check.due("[" + text + "]", () -> Texts.net(x, text), 0);
        Check.due("[" + text + "] place", x::fault, -1);
        Check.due("[" + text + "] STATUS", () -> x.count(17), 0);
        Check.due("[" + text + "] INPUTS", () -> x.count(0), inputs);
        Check.due("[" + text + "] GATES", () -> x.count(1), gates);
        Check.due("[" + text + "] CHAINS", () -> x.count(3), chains);
    }

    /** The '^' marks the FAULT's place, and is no part of the text. */
    private static void wrong(int fault, String marked) {
        int place = marked.indexOf('^');
        String text = marked.substring(0, place) + marked.substring(place + 1);
        ScanPacker x = new ScanPacker();
        Check.due("[" + marked + "]", () -> Texts.net(x, text), fault);
        Check.due("[" + marked + "] place", x::fault, place);
        Check.due("[" + marked + "] STATUS 0", () -> x.count(17), 1);
        Check.due("[" + marked + "] STATUS 1, 2", () -> x.count(18) + x.count(19), 0);
        Check.due("[" + marked + "] tape", () -> x.count(16), 0);
        Check.due("[" + marked + "] no LINES", () -> x.count(0) + x.count(1) + x.count(3) + x.count(4), 0);
    }

    private static String names(int n) {
        StringBuilder text = new StringBuilder();
        for (int i = 0; i < n; i++) {
            text.append(' ').append((char) ('a' + i));
        }
        return text.toString();
    }

    private static String gates(int n) {
        StringBuilder text = new StringBuilder();
        for (int i = 0; i < n; i++) {
            text.append('x').append((char) ('a' + i)).append("=not a;");
        }
        return text.toString();
    }

    /** "INPUTS 0, 1 .. (at most 6)"; "the 7th INPUT". */
    private static void inputsAtMostSix() {
        well("", 0, 0, 0);
        well("in a;", 1, 0, 0);
        well("in" + names(5) + ";", 5, 0, 0);
        well("in" + names(6) + ";", 6, 0, 0);
        wrong(2, "in" + names(6) + " ^g;");
        wrong(2, "in" + names(6) + " ^g h;");
        well("in" + names(5) + ";in f;", 6, 0, 0);
        wrong(2, "in" + names(6) + ";in ^g;");
        wrong(2, "in a;in b;in c;in d;in e;in f;in ^g;");
        wrong(2, "in a;in" + names(6).substring(2) + " ^g;");
        ScanPacker x = Texts.of("in" + names(6) + ";");
        Check.due("the 6th is the last LINE", () -> x.line(5, 0), -1);
        Check.noSuch("there is no 7th", () -> x.line(6, 0));
    }

    /** "GATES (at most 16)"; "the 17th GATE (at the NAME)". */
    private static void gatesAtMostSixteen() {
        well("in a;" + gates(15), 1, 15, 0);
        well("in a;" + gates(16), 1, 16, 0);
        wrong(2, "in a;" + gates(16) + "^y=not a;");
        wrong(2, "in a;" + gates(16) + "^y");
        wrong(2, "in a;" + gates(16) + "see a;chain a;fill 1;^y = b;");
        well("in a;" + gates(16) + "see a xp;chain a;take a xp;fill 1;", 1, 16, 1);
        well("in" + names(6) + ";" + gates(16), 6, 16, 0);
        ScanPacker x = Texts.of("in" + names(6) + ";" + gates(16));
        Check.due("the 22nd is the last LINE", () -> x.line(21, 0), 0);
        Check.noSuch("there is no 23rd", () -> x.line(22, 0));
    }

    /** "of 1 to 3 LINES (not: just 1; the others at least 2)"; "';' behind too few LINES of a GATE, one behind too many". */
    private static void linesOfAGate() {
        wrong(1, "in a b c d;g=not^;");
        well("in a b c d;g=not a;", 4, 1, 0);
        wrong(1, "in a b c d;g=not a ^b;");
        wrong(1, "in a b c d;g=not a ^b c;");
        for (int k = 1; k < KINDS.length; k++) {
            String head = "in a b c d;g=" + KINDS[k];
            wrong(1, head + "^;");
            wrong(1, head + " a^;");
            well(head + " a b;", 4, 1, 0);
            well(head + " a b c;", 4, 1, 0);
            wrong(1, head + " a b c ^d;");
            wrong(1, head + " a b c ^d a;");
        }
        for (int k = 0; k < KINDS.length; k++) {
            ScanPacker x = Texts.of("in a;g=" + KINDS[k] + (k == 0 ? " a;" : " a a;"));
            Check.due("KIND of " + KINDS[k], () -> x.line(1, 0), k);
        }
        ScanPacker x = Texts.of("in a b c;f=not c;g=nor b c;h=xor c b a;");
        int[][] due = {{1, 2, -1, -1}, {2, 1, 2, -1}, {3, 2, 1, 0}};
        for (int gate = 0; gate < 3; gate++) {
            for (int what = 1; what < 5; what++) {
                int line = 3 + gate;
                int w = what;
                Check.due("line(" + line + ", " + w + ")", () -> x.line(line, w), due[gate][what - 1]);
            }
        }
    }

    /** "one LINE may stand twice". */
    private static void oneLineTwice() {
        for (int k = 1; k < KINDS.length; k++) {
            well("in a b;g=" + KINDS[k] + " a a;", 2, 1, 0);
            well("in a b;g=" + KINDS[k] + " b a b;", 2, 1, 0);
            well("in a b;g=" + KINDS[k] + " b b b;", 2, 1, 0);
        }
        ScanPacker x = Texts.of("in a;g=xor a a;h=xor a a a;");
        Check.due("it counts twice", () -> x.by(1, -1, 1), 0);
        Check.due("it counts thrice", () -> x.by(1, -1, 2), 1);
    }

    /** "LINES that are told ahead". */
    private static void toldAhead() {
        wrong(3, "in a;g=not ^g;");
        wrong(3, "in a;g=and a ^g;");
        wrong(3, "in a;g=and a ^h;h=not a;");
        wrong(3, "g=not ^a;in a;");
        well("in a;g=not a;h=not g;", 1, 2, 0);
        wrong(3, "in a;see ^g;g=not a;");
        well("in a;g=not a;see g;", 1, 1, 0);
        wrong(3, "see ^a;in a;");
        wrong(3, "chain ^a;in a;");
        wrong(3, "in a;chain a;take a ^g;g=not a;");
    }

    /** "a CHAIN (at most 3 ..)"; "the 4th 'chain'". */
    private static void chainsAtMostThree() {
        well("in a b c d;", 4, 0, 0);
        well("in a b c d;chain a;", 4, 0, 1);
        well("in a b c d;chain a;chain b;", 4, 0, 2);
        well("in a b c d;chain a;chain b;chain c;", 4, 0, 3);
        well("in a b c d;chain a;chain b;chain c d;", 4, 0, 3);
        wrong(2, "in a b c d;chain a;chain b;chain c;^chain d;");
        wrong(2, "in a b c d;chain a;chain b;chain c;^chain");
        wrong(2, "in a b c d;chain a;chain b;chain c;^chain zz;");
    }

    /** "of at least one CELL each". */
    private static void atLeastOneCell() {
        wrong(1, "in a;chain^;");
        wrong(1, "in a;chain ^");
        well("in a;chain a;", 1, 0, 1);
        well("in" + names(6) + ";chain" + names(6) + ";", 6, 0, 1);
        ScanPacker x = Texts.of("in" + names(6) + ";chain" + names(5) + ";chain f;");
        Check.due("five", () -> x.chain(0, -1), 5);
        Check.due("one", () -> x.chain(1, -1), 1);
    }

    /** "of one at most": "5 .. an INPUT that is a CELL already". */
    private static void cellOfOneChainAtMost() {
        wrong(5, "in a b;chain a ^a;");
        wrong(5, "in a b;chain a b ^a;");
        wrong(5, "in a b;chain a;chain ^a;");
        wrong(5, "in a b;chain a;chain b ^a;");
        well("in a b;chain a;chain b;", 2, 0, 2);
    }

    /** "a CELL may TAKE a LINE": none, one, an INPUT, a GATE, one that another CELL TAKES, too. */
    private static void cellMayTake() {
        ScanPacker x = Texts.of("in a b c d;chain a b c d;g=not d;take b b;take c g;take d g;");
        int[] due = {-1, 1, 4, 4};
        for (int input = 0; input < 4; input++) {
            int at = input;
            Check.due("line(" + input + ", 8)", () -> x.line(at, 8), due[input]);
        }
        Check.due("SEEN", () -> x.count(2), 2);
        wrong(5, "in a b;chain a;take a b;take ^a b;");
        wrong(5, "in a b;chain a;take a b;take ^a a;");
    }

    /** "FILL is 0, 1 or 2 (0 without)". */
    private static void fillIsThree() {
        Check.due("without", () -> Texts.of("in a;").count(4), 0);
        for (int fill = 0; fill < 3; fill++) {
            ScanPacker x = Texts.of("fill " + fill + ";in a;");
            Check.due("fill " + fill, () -> x.count(4), fill);
        }
        ScanPacker x = Texts.of("fill 2;");
        Texts.net(x, "in a;");
        Check.due("without, behind another NET", () -> x.count(4), 0);
        wrong(2, "fill ^3;");
        Texts.net(x, "fill 1;");
        Texts.net(x, "fill 3;");
        Check.due("stays", () -> x.count(4), 1);
    }

    private static boolean isLetter(int sign) {
        return sign >= 'a' && sign <= 'z';
    }

    private static boolean isBlank(int sign) {
        return sign == 32 || sign == 10;
    }

    private static void answers(String what, String text, int fault, int place) {
        ScanPacker x = new ScanPacker();
        Check.due(what, () -> Texts.net(x, text), fault);
        Check.due(what + " place", x::fault, place);
    }

    /** "words (a .. z)": all 256 bytes where a NAME must be. */
    private static void lettersAreAToZ() {
        for (int sign = 0; sign < 256; sign++) {
            boolean letter = isLetter(sign);
            int place = isBlank(sign) ? 4 : 3;
            answers("NAME byte " + sign, "in " + (char) sign + ";", letter ? 0 : 1, letter ? -1 : place);
            answers("second byte " + sign, "in a" + (char) sign + ";", letter || isBlank(sign) ? 0 : 1,
                letter || isBlank(sign) ? -1 : sign == ';' ? 5 : 4);
        }
        for (char letter = 'a'; letter <= 'z'; letter++) {
            ScanPacker x = Texts.of("in q" + letter + ";");
            int due = letter - 'a' + 1;
            Check.due("letter " + letter, () -> x.letter(0, 1), due);
        }
    }

    /** "blanks (32, 10)": all 256 bytes between two words; 9, 11, 13, 31, 33, 138 and 160 are none. */
    private static void blanksAreTwo() {
        for (int sign = 0; sign < 256; sign++) {
            boolean blank = isBlank(sign);
            int place = isLetter(sign) ? 4 : 2;
            answers("blank byte " + sign, "in" + (char) sign + "a;", blank ? 0 : 1, blank ? -1 : place);
        }
    }

    /** "NUMBERS (1 digit)": all 256 bytes where one must be; '/' and ':' are none, 3 to 9 above 2. */
    private static void digitsOfFill() {
        for (int sign = 0; sign < 256; sign++) {
            boolean well = sign >= '0' && sign <= '2';
            boolean above = sign >= '3' && sign <= '9';
            int place = isLetter(sign) || isBlank(sign) ? 5 : 4;
            answers("NUMBER byte " + sign, "fill" + (char) sign + ";", well ? 0 : above ? 2 : 1, well ? -1 : place);
        }
    }

    /** "the longest row". */
    private static void longestRow() {
        wrong(1, "ina^;");
        wrong(1, "in a;seea^;");
        wrong(1, "in a;g=^nota;");
        wrong(1, "in a;g=^andn a a;");
        well("in innot;", 1, 0, 0);
        well("in a;g=not a;see g;", 1, 1, 0);
        well("fill1;", 0, 0, 0);
        wrong(1, "fill1^a;");
        wrong(2, "fill ^12;");
        wrong(1, "in a^1;");
        wrong(1, "in ^1a;");
    }

    /** "blanks between them count for nothing". */
    private static void blanksCountForNothing() {
        well("  in\n\na \n b\n;g  =\nand\na \nb ;\nsee g\n; \n", 2, 1, 0);
        well("in a b;g=and a b;see g;", 2, 1, 0);
        well("in ab;", 1, 0, 0);
        well("in a b;", 2, 0, 0);
        wrong(1, "i ^n;");
        wrong(1, "fill 1 ^2;");
        wrong(1, "in a;g=^n ot a;");
        well(" ".repeat(900), 0, 0, 0);
        well("\n".repeat(900), 0, 0, 0);
    }

    /** "TEXT: CLAUSE*". */
    private static void clausesAreAnyNumber() {
        well("", 0, 0, 0);
        well(" ", 0, 0, 0);
        wrong(1, "^;");
        wrong(1, "in a;^;");
        wrong(1, "in a; ^;");
        wrong(1, "^=");
        wrong(1, "^1");
        well("in a;see a;", 1, 0, 0);
    }

    /** "'in' NAME NAME*", "'see' LINE LINE*", "'chain' INPUT INPUT*". */
    private static void listsOfAtLeastOne() {
        wrong(1, "in^;");
        wrong(1, "in a;see^;");
        wrong(1, "in a;chain ^;");
        well("in a;see a;chain a;", 1, 0, 1);
        well("in a b;see b a;chain b a;", 2, 0, 1);
        wrong(1, "in a^=;");
        wrong(1, "in a;see a ^1;");
        wrong(1, "in a;chain a ^=;");
        ScanPacker x = Texts.of("in" + names(6) + ";" + gates(16) + "see" + names(6) + sixteen() + ";");
        Check.due("all LINES are SEEN", () -> x.count(2), 22);
    }

    private static String sixteen() {
        StringBuilder text = new StringBuilder();
        for (int i = 0; i < 16; i++) {
            text.append(" x").append((char) ('a' + i));
        }
        return text.toString();
    }

    /** "NAME '=' KIND", "'take' INPUT LINE", "'fill' NUMBER", each with ';' behind it. */
    private static void exactlyOneEach() {
        wrong(1, "in a;g ^not a;");
        wrong(1, "in a;g^;");
        wrong(1, "in a;g=^=not a;");
        wrong(1, "in a;g=^;");
        wrong(1, "in a;g=^a a;");
        wrong(1, "in a;g=^in a;");
        wrong(1, "in a;g=not ^not a;");
        wrong(1, "in a;g=not a ^=");
        wrong(1, "in a;chain a;take^;");
        wrong(1, "in a;chain a;take a^;");
        wrong(1, "in a;chain a;take a a ^a;");
        wrong(1, "in a;chain a;take a a ^abcdefg;");
        wrong(1, "in a;chain a;take a a ^zz;");
        wrong(1, "fill^;");
        wrong(1, "fill ^a;");
        wrong(1, "fill ^abcdefg;");
        wrong(1, "fill ^=;");
        wrong(1, "fill 1 ^1;");
        wrong(1, "fill 1 ^fill 2;");
    }

    /** "NAME: a word of at most 6 letters": 1, 5, 6 and 7. */
    private static void namesOfSixLetters() {
        well("in a;", 1, 0, 0);
        well("in abcde;", 1, 0, 0);
        well("in abcdef;", 1, 0, 0);
        wrong(2, "in ^abcdefg;");
        wrong(2, "in ^abcdefgh;");
        wrong(2, "in ^" + "z".repeat(897));
        well("in a;bcdef=not a;", 1, 1, 0);
        well("in a;bcdefg=not a;", 1, 1, 0);
        wrong(2, "in a;^bcdefgh=not a;");
        well("in a aa aaa aaaa aaaaa aaaaaa;", 6, 0, 0);
        well("in zzzzzz zzzzz zzzz zzz zz z;", 6, 0, 0);
        wrong(2, "in aaaaaa ^aaaaaaa;");
        ScanPacker x = Texts.of("in a aa aaa aaaa aaaaa aaaaaa;");
        for (int line = 0; line < 6; line++) {
            int at = line;
            Check.due("line(" + line + ", 9)", () -> x.line(at, 9), line + 1);
            Check.due("its last letter", () -> x.letter(at, at), 1);
            Check.noSuch("none behind it", () -> x.letter(at, at + 1));
        }
    }

    /** "NAME: .. none of those in quotes". */
    private static void namesAreNoQuotedWords() {
        for (String word : KINDS) {
            wrong(1, "in ^" + word + ";");
            wrong(1, "in a ^" + word + ";");
            wrong(1, "in a;^" + word + "=not a;");
            well("in " + word + "s s" + word + ";", 2, 0, 0);
            well("in " + word.substring(1) + "q;", 1, 0, 0);
            well("in a;" + word + "x=" + word + " a" + (word.equals("not") ? ";" : " a;"), 1, 1, 0);
        }
        for (String word : HEADS) {
            wrong(1, "in ^" + word + ";");
            wrong(1, "in a ^" + word + ";");
            well("in " + word + "s s" + word + ";", 2, 0, 0);
            well("in " + word.substring(0, word.length() - 1) + ";", 1, 0, 0);
        }
        wrong(1, "in a;see^=not a;");
        wrong(1, "in a;chain^=not a;");
        wrong(1, "in a;take^=not a;");
        wrong(1, "in a;fill^=not a;");
        wrong(1, "in^=not a;");
    }

    /** A word in quotes can't stand where a LINE or an INPUT must be. */
    private static void linesAreNoQuotedWords() {
        String[][] all = {KINDS, HEADS};
        for (String[] words : all) {
            for (String word : words) {
                wrong(1, "in a;see ^" + word + ";");
                wrong(1, "in a;see a ^" + word + ";");
                wrong(1, "in a;g=and a ^" + word + ";");
                wrong(1, "in a;chain ^" + word + ";");
                wrong(1, "in a;chain a;take ^" + word + " a;");
                wrong(1, "in a;chain a;take a ^" + word + ";");
            }
        }
    }

    /** "'in' stands ahead of all GATES": "'in' behind a GATE". */
    private static void inAheadOfAllGates() {
        well("fill 1;in a;see a;in b;chain a;in c;take a b;in d;", 4, 0, 1);
        wrong(1, "in a;g=not a;^in b;");
        wrong(1, "in a;g=not a;see g;^in b;");
        wrong(1, "in a;g=not a;^in");
        wrong(1, "in" + names(6) + ";g=not a;^in g;");
        well("in a;in b;g=not a;", 2, 1, 0);
    }

    /** "the first along the text". */
    private static void firstAlongTheText() {
        wrong(4, "in a ^a;see b;fill 3;");
        wrong(3, "in a;see ^b;in a;@");
        wrong(2, "fill ^3;fill 3;;");
        wrong(1, "in a^@;in a;");
        wrong(5, "in a;see a ^a b;");
        wrong(3, "in a;see ^b a;see a;");
        wrong(4, "in a;^a @");
        wrong(5, "fill 0;^fill 3;");
    }

    /** "of one TOKEN the least". */
    private static void leastOfOneToken() {
        wrong(2, "in" + names(6) + " ^a;");
        wrong(1, "in" + names(6) + " ^and;");
        wrong(2, "in a;" + gates(16) + "^a=not a;");
        wrong(2, "in a;" + gates(16) + "^xp=not a;");
        wrong(1, "in a;" + gates(16) + "^not=not a;");
        wrong(1, "in a;g=not a ^abcdefg;");
        wrong(1, "in a;g=^abcdefg a;");
        wrong(1, "in a;g ^abcdefg;");
        wrong(1, "in a ^12;");
        wrong(1, "^12");
        wrong(2, "in a;see a ^abcdefg;");
        wrong(2, "in a;chain a ^abcdefg;");
        wrong(3, "in a b;chain a;take a b;take ^b a;");
    }

    /** "(the text's length where it ends too soon ..)": each text that breaks off. */
    private static void endsTooSoon() {
        String text = "in a b;chain a;g=and a b;take a g;see g;fill 2;";
        for (int n = 0; n <= text.length(); n++) {
            String part = text.substring(0, n);
            if (n == 0 || part.endsWith(";")) {
                answers("[" + part + "]", part, 0, -1);
                answers("[" + part + " ]", part + " ", 0, -1);
            } else {
                boolean kindBreaksOff = part.endsWith("=a") || part.endsWith("=an");
                int place = kindBreaksOff ? part.indexOf('=') + 1 : n;
                answers("[" + part + "]", part, 1, place);
                answers("[" + part + "\\n ]", part + "\n ", 1, kindBreaksOff ? place : n + 2);
            }
        }
        wrong(1, " ".repeat(898) + "in^");
    }

    /** "a word of 7 letters or more where a NAME, a LINE, an INPUT must be". */
    private static void tooLongWords() {
        wrong(2, "in a;see ^abcdefg;");
        wrong(3, "in a;see ^abcdef;");
        wrong(2, "in a;g=not ^abcdefg;");
        wrong(3, "in a;g=not ^abcdef;");
        wrong(2, "in a;g=or a a ^abcdefg;");
        wrong(2, "in a;chain ^abcdefg;");
        wrong(3, "in a;chain ^abcdef;");
        wrong(2, "in a;chain a;take ^abcdefg a;");
        wrong(3, "in a;chain a;take ^abcdef a;");
        wrong(2, "in a;chain a;take a ^abcdefg;");
        wrong(3, "in a;chain a;take a ^abcdef;");
        wrong(2, "^abcdefg");
        wrong(1, "abcdef^");
        wrong(2, "in abcdef;see ^abcdefg;");
        wrong(2, "in abcdef;see ^abcdefabcdef;");
    }

    /** "a NUMBER of 2 digits or more, or above 2". */
    private static void numbersOfFill() {
        well("fill 0;", 0, 0, 0);
        well("fill 1;", 0, 0, 0);
        well("fill 2;", 0, 0, 0);
        wrong(2, "fill ^3;");
        wrong(2, "fill ^9;");
        wrong(2, "fill ^00;");
        wrong(2, "fill ^01;");
        wrong(2, "fill ^02;");
        wrong(2, "fill ^10;");
        wrong(2, "fill ^22");
        wrong(2, "fill ^4294967296;");
        wrong(2, "fill ^4294967297;");
        wrong(2, "fill ^" + "0".repeat(895));
    }

    /** "3 a LINE that isn't told ahead". */
    private static void notToldAhead() {
        wrong(3, "see ^a;");
        wrong(3, "in a;see a ^b;");
        wrong(3, "g=not ^a;");
        wrong(3, "in a;g=and a ^b;");
        wrong(3, "in a;g=and a a ^b;");
        wrong(3, "in ab;see ^a;");
        wrong(3, "in ab;see ^abc;");
        wrong(3, "in ab;see ^ba;");
    }

    /** "an INPUT that isn't one (a GATE, too)". */
    private static void noInputThatIsOne() {
        wrong(3, "chain ^a;");
        wrong(3, "in a;chain ^b;");
        wrong(3, "in a;chain a ^b;");
        wrong(3, "in a;g=not a;chain ^g;");
        wrong(3, "in a;g=not a;chain a ^g;");
        wrong(3, "in a;g=not a;chain a;take ^g a;");
        wrong(3, "in" + names(6) + ";g=not a;chain ^g;");
    }

    /** "for 'take' one that is no CELL so far". */
    private static void noCellSoFar() {
        wrong(3, "in a b;take ^a b;");
        wrong(3, "in a b;take ^a b;chain a;");
        wrong(3, "in a b;chain a;take ^b a;");
        wrong(3, "in a b;chain a;take ^b a;chain b;");
        well("in a b;chain a;chain b;take b a;", 2, 0, 2);
    }

    /** "4 a NAME that a LINE has already". */
    private static void namesThatAre() {
        wrong(4, "in a ^a;");
        wrong(4, "in a;in ^a;");
        wrong(4, "in a b c d e ^a;");
        wrong(4, "in a;^a=not a;");
        wrong(4, "in a;g=not a;^g=not a;");
        wrong(4, "in a;" + gates(15) + "^xo=not a;");
        wrong(4, "in a;" + gates(15) + "^a=not a;");
        well("in a;" + gates(15) + "xp=not a;", 1, 16, 0);
    }

    /** "5 a LINE that is SEEN already, an INPUT that is a CELL already, that TAKES already, a second 'fill'". */
    private static void alreadySo() {
        wrong(5, "in a;see a ^a;");
        wrong(5, "in a;see a;see ^a;");
        wrong(5, "in a;g=not a;see a g;see ^g;");
        wrong(5, "in a;chain a ^a;");
        wrong(5, "in a b;chain a;take a a;take ^a b;");
        wrong(5, "fill 1;^fill 2;");
        wrong(5, "fill 0;^fill 0;");
        wrong(5, "fill 0;^fill");
        wrong(5, "fill 0;in a;^fill;");
    }

    /** "SEEN LINES are those told by 'see', and those that CELLS TAKE: it is no FAULT, if one is both". */
    private static void seenAndTaken() {
        ScanPacker x = Texts.of("in a b c;chain a b;take a c;take b c;see c;");
        Check.due("SEEN", () -> x.count(2), 1);
        Check.due("c", () -> x.line(2, 5), 1);
        Check.due("a CELL isn't, because it TAKES", () -> x.line(0, 5), 0);
        ScanPacker y = Texts.of("in a b c;see c;chain a b;take a c;take b a;");
        Check.due("SEEN", () -> y.count(2), 2);
        Check.due("a", () -> y.line(0, 5), 1);
        wrong(5, "in a b c;chain a;take a c;see c;see ^c;");
        ScanPacker z = Texts.of("in a;chain a;");
        Check.due("none", () -> z.count(2), 0);
    }

    /** "A TEXT of at most 900 bytes". */
    private static void textOfNineHundred() {
        well(" ".repeat(894) + "in a;", 1, 0, 0);
        well(" ".repeat(895) + "in a;", 1, 0, 0);
        wrong(1, " ".repeat(896) + "in a^");
        well("in a;" + " ".repeat(895), 1, 0, 0);
    }

    /** "NONE, and none come, if it would have more than 900". */
    private static void feedUpToNineHundred() {
        ScanPacker x = new ScanPacker();
        int a = 0x696E2061;
        for (int i = 1; i <= 43; i++) {
            x.feed(0x20202020, 0x20202020, 0x20202020, 0x20202020, 0x20202020);
        }
        Check.due("880", () -> x.feed(0x20202020, 0x20202020, 0x20202020, 0x20202020, 0x20202020), 880);
        Check.due("900", () -> x.feed(0x20202020, 0x20202020, 0x20202020, 0x20202020, 0x2020203B), 900);
        Check.due("920", () -> x.feed(a, a, a, a, a), -1);
        Check.due("900 stays", () -> x.count(16), 900);
        Check.due("no STATUS", () -> x.count(17) + x.count(18) + x.count(19), 0);
        Check.illegal("net(901)", () -> x.net(901));
        Check.due("900 stays", () -> x.count(16), 900);
        Check.due("the last byte is the last one fed", () -> x.net(900), 1);
        Check.due("it is the ';'", x::fault, 899);
        Check.due("room again", () -> x.feed(a, a, a, a, a), 20);
        Check.due("from the first byte on", () -> x.net(4), 1);
        Check.due("in a", x::fault, 4);
    }

    /** "Twenty bytes come behind the tape, of each number the highest first": each of the twenty. */
    private static void highestByteFirst() {
        for (int at = 0; at < 20; at++) {
            StringBuilder text = new StringBuilder(" ".repeat(20));
            text.setCharAt(at, (char) 255);
            answers("byte " + at, text.toString(), 1, at);
            ScanPacker x = new ScanPacker();
            x.feed(0x20202020, 0x20202020, 0x20202020, 0x20202020, 0x20202020);
            Texts.feed(x, text.toString());
            int place = 20 + at;
            Check.due("behind the tape", () -> x.net(40), 1);
            Check.due("its place", x::fault, place);
        }
    }

    /** "the tape has not so many, n below 0"; "(it is empty then)". */
    private static void netOfSoMany() {
        ScanPacker x = new ScanPacker();
        Check.due("net(0) of none", () -> x.net(0), 0);
        Check.illegal("net(1) of none", () -> x.net(1));
        Check.illegal("net(-1) of none", () -> x.net(-1));
        int[] well = {0, 5, 11, 19, 20};
        for (int n : well) {
            Texts.feed(x, "in a;in b; in c;    ");
            Check.illegal("net(21) of 20", () -> x.net(21));
            Check.illegal("net(-1) of 20", () -> x.net(-1));
            Check.due("20 stay", () -> x.count(16), 20);
            Check.due("net(" + n + ")", () -> x.net(n), 0);
            Check.due("it is empty", () -> x.count(16), 0);
            Check.due("its INPUTS", () -> x.count(0), n == 0 ? 0 : n == 5 ? 1 : n == 11 ? 2 : 3);
            Check.illegal("net(1) of an empty one", () -> x.net(1));
        }
        Check.due("STATUS stays", () -> x.count(17), 0);
    }

    /** "The place of the latest net()'s FAULT; NONE without". */
    private static void placeOfTheLatest() {
        ScanPacker x = new ScanPacker();
        Check.due("no net() so far", x::fault, -1);
        Texts.net(x, "in a a;");
        Check.due("the first one's", x::fault, 5);
        Texts.net(x, ";");
        Check.due("the latest one's", x::fault, 0);
        Check.illegal("one that throws", () -> x.net(1));
        Check.due("isn't any", x::fault, 0);
        x.net(0);
        Check.due("one without", x::fault, -1);
        Check.illegal("one that throws", () -> x.net(-1));
        Check.due("isn't any", x::fault, -1);
    }

    /** "A NET of an empty TEXT": as behind net(0). */
    private static void newObject() {
        Twins.same("a new object and net(0)", ScanPacker::new, () -> {
            ScanPacker x = new ScanPacker();
            x.net(0);
            return x;
        });
        Twins.same("a new object and net() of blanks", ScanPacker::new, () -> Texts.of(" \n "));
    }

    /** "are a NET, all anew", "ACTS, what is NOTED, the image are gone": as in a new object, whatever was ahead. */
    private static void allAnew() {
        String wide = "in a b c d e f;chain b;chain d c;chain f e a;fill 1;" + gates(16) + "see a b c d e f" + sixteen()
            + ";take a xp;take b xa;";
        String[] texts = {"", "in a;", "in a;see a;", "in a b;chain b;see a;fill 2;", "in a b;g=not b;see g;chain a;",
            "in a b;g=nor a b;h=or g b a;see g;chain a;take a h;",
            "in a b c d e f;g=nand a f;see g;", wide};
        for (String first : texts) {
            for (String text : texts) {
                Twins.sameButTape("[" + text + "] behind [" + first + "]", () -> Texts.of(text), () -> {
                    ScanPacker x = Texts.of(wide);
                    Texts.net(x, "in a b c;chain c;k=or a b;m=not k;see m;take");
                    Texts.net(x, first);
                    use(x);
                    Texts.net(x, text);
                    return x;
                });
            }
        }
    }

    private static void use(ScanPacker x) {
        x.count(13);
        x.load(x.count(0) > 0 ? 1 : 0);
        x.shift(7);
        x.apply();
        x.count(13);
        x.fill(1);
        x.defect(x.count(5) - 1);
        for (int fault = 0; fault < 9; fault++) {
            x.pick(fault);
        }
        for (int line = 0; line < 22; line++) {
            x.note(0, line, 1);
        }
        x.image();
        x.take();
    }

    /** "at most 512 calls": the last ones answer, too. */
    private static void lastCall() {
        ScanPacker x = Texts.of("in a b c d e f;chain a b c d e f;");
        // two feed(), one net() are behind it
        for (int call = 4; call <= 511; call++) {
            x.shift(1);
        }
        Check.due("the 512th", () -> x.count(10), 508);
    }
}
