/**
 * Terms 1 and promises 1 to 3: for each sentence that names a bound, the last that is taken and the
 * first that is not. Tester.fault also looks that all else stays, Tester.well that all begins anew.
 */
public final class EdgesOfTextTest {
    private static final int MIN = Integer.MIN_VALUE;
    private static final int MAX = Integer.MAX_VALUE;
    private static final String WORDS = "sketch in hole rank var must if else loop while most let spec";
    private static final String HEAD = "sketch 6;";

    public static void main(String[] args) {
        tapeOf800();
        tapeBehindRefusals();
        bytesHighestFirst();
        firstBytesAlone();
        endOfText();
        farthestPlace();
        eachByte();
        lengthOfNumbers();
        lengthOfWords();
        whatStandsTogether();
        width();
        linesAheadOfStatements();
        bits();
        bitsWithinWidth();
        rank();
        rounds();
        emptyBraces();
        oneTest();
        anyNumber();
        namesThatAreNone();
        namesGivenTwice();
        namesOfLets();
        namesThatCanBeSet();
        howManyInsHolesVars();
        bitsTogether();
        letsWithinOneAnother();
        statementsInAll();
        bracesWithinOneAnother();
        openWithinOneAnother();
        openTillUnaryEnds();
        leastPlace();
        firstOfTheList();
        Tester.end();
    }

    private static void fault(int kind, String marked) { Tester.fault(kind, marked); }

    private static void well(int statements, String text) { Tester.well(statements, text); }

    private static SketchFiller fedTimes(int n) {
        SketchFiller x = new SketchFiller();
        for (int i = 1; i <= n; i++) Tester.due("feed " + i, x.feed(i, -i, MIN, MAX, 0), 20 * i);
        return x;
    }

    // ---- the tape

    private static void tapeOf800() {
        Tester.by("2: how many it has; NONE, and none come, if it would have more than 800");
        Tester.due("a new one", new SketchFiller().state(5), 0);
        SketchFiller x = fedTimes(39);
        Tester.due("780", x.state(5), 780);
        Tester.due("the last that comes", x.feed(0, 0, 0, 0, 0), 800);
        for (int i = 0; i < 3; i++) {
            Tester.due("the first that does not", x.feed(0, 0, 0, 0, 0), -1);
            Tester.due("none come", x.state(5), 800);
        }
        Tester.due("still no SKETCH", x.has(0), -1);
        Tester.unchanged("feed to a full one that is used", () -> {
            SketchFiller y = Tester.used();
            for (int i = 0; i < 40; i++) y.feed(0, 0, 0, 0, 0);
            return y;
        }, y -> y.feed(0, 0, 0, 0, 0), -1);
        // What was refused does not stand in place of what had come.
        String text = "sketch 3;must 1;spec " + " ".repeat(777) + "1;";
        SketchFiller z = new SketchFiller();
        Tester.feed(z, text);
        Tester.due("full", z.feed(-1, -1, -1, -1, -1), -1);
        Tester.due("as it came", z.sketch(800), 1);
    }

    private static void tapeBehindRefusals() {
        Tester.by("3: NONE: it has not so many, n is below 0 (THE TAPE stays)");
        int[] refused = {21, 22, 40, 800, 801, MAX, -1, -2, -20, MIN};
        for (int n : refused) {
            SketchFiller x = new SketchFiller();
            Tester.feed(x, "sketch 3;must 1;s");
            Tester.due("sketch " + n, x.sketch(n), -1);
            Tester.due("it stays behind " + n, x.state(5), 20);
            Tester.due("no SKETCH behind " + n, x.has(0), -1);
            Tester.due("the last that it has", x.sketch(20), -2 - (8 * 16 + 2));
            Tester.due("empty behind a fault", x.state(5), 0);
            Tester.unchanged("sketch " + n + " of an empty one", Tester::used, y -> y.sketch(n), -1);
        }
        Tester.due("sketch 1 of a new one", new SketchFiller().sketch(1), -1);
        Tester.due("sketch 0 of a new one", new SketchFiller().sketch(0), -3);
        SketchFiller blank = new SketchFiller();
        Tester.feed(blank, " sketch 3;spec 1;   ");
        Tester.due("sketch 0 of blanks", blank.sketch(0), -3);
        Tester.due("empty behind sketch 0", blank.state(5), 0);
        Tester.unchanged("sketch 0 in a used one", Tester::used, y -> y.sketch(0), -3);
        // Behind what is refused the same bytes are still there.
        SketchFiller x = new SketchFiller();
        Tester.feed(x, "sketch 3;spec 1  ;  ");
        Tester.due("too many", x.sketch(21), -1);
        Tester.due("below 0", x.sketch(-1), -1);
        Tester.due("all", x.sketch(20), 0);
        Tester.due("empty then", x.state(5), 0);
        Tester.due("none is there again", x.sketch(20), -1);
        Tester.due("the SKETCH stays", x.has(0), 3);
    }

    private static void bytesHighestFirst() {
        Tester.by("2: of each number the highest first");
        SketchFiller x = new SketchFiller();
        x.feed('s' << 24 | 'k' << 16 | 'e' << 8 | 't', 'c' << 24 | 'h' << 16 | '1' << 8 | ';',
                's' << 24 | 'p' << 16 | 'e' << 8 | 'c', '1' << 24 | ';' << 16 | ' ' << 8 | '\n', ' ' << 24);
        Tester.due("in that order", x.sketch(17), 0);
        // 128 to 255 as the highest byte make the number less than 0.
        for (int b = 128; b < 256; b++) {
            SketchFiller y = new SketchFiller();
            y.feed(0x20202020, 0x0A0A0A0A, b << 24 | 0x202020, 0x20202020, 0x20202020);
            Tester.due("byte " + b, y.sketch(20), -2 - (8 * 8 + 1));
        }
    }

    private static void firstBytesAlone() {
        Tester.by("3: The first n bytes of THE TAPE (it is empty then) are the SKETCH from now on");
        String text = "sketch 3;spec 1;must";
        SketchFiller x = new SketchFiller();
        Tester.feed(x, text);
        Tester.due("the first 16", x.sketch(16), 0);
        Tester.due("the others are gone", x.state(5), 0);
        Tester.due("fed from the start", x.feed(0, 0, 0, 0, 0), 20);
        for (int n = 0; n < 16; n++) {
            SketchFiller y = new SketchFiller();
            Tester.feed(y, text);
            int answer = y.sketch(n);
            Tester.due("the first " + n + " are none", answer < -2 && y.has(0) == -1, true);
            Tester.due("empty behind the fault of " + n, y.state(5), 0);
        }
        SketchFiller z = new SketchFiller();
        Tester.feed(z, text);
        Tester.due("17 are one too many", z.sketch(17), -2 - (8 * 16 + 1));
    }

    private static void endOfText() {
        Tester.by("the end: how many bytes there are");
        fault(1, "@");
        fault(1, " @");
        fault(1, "\n\n@");
        fault(1, "sketch@");
        fault(1, "sketch @");
        fault(1, "sketch 4@");
        fault(1, "sketch 4;@");
        fault(1, "sketch 4;  \n @");
        fault(1, "sketch 4;spec 1@");
        fault(1, "sketch 4;spec 1 \n@");
        well(0, "sketch 4;spec 1;");
        well(0, "sketch 4;spec 1; \n");
        // Bytes behind the n-th are not looked at: the place is n, though THE TAPE has more.
        SketchFiller x = new SketchFiller();
        Tester.feed(x, "sketch 4;spec 1;    ");
        Tester.due("end at 15", x.sketch(15), -2 - (8 * 15 + 1));
    }

    private static void farthestPlace() {
        Tester.by("3: -2 less (8 * place + kind)");
        String blanks = " ".repeat(800);
        Tester.fault(1, 800, blanks);
        Tester.fault(1, 799, blanks.substring(0, 799) + "?");
        Tester.fault(1, 0, "?" + blanks.substring(0, 799));
        String head = "sketch 1;spec ";
        Tester.fault(2, 798, head + " ".repeat(798 - head.length()) + "q;");
        Tester.fault(1, 800, head + " ".repeat(799 - head.length()) + "1");
        Tester.well(0, head + " ".repeat(798 - head.length()) + "1;");
    }

    // ---- tokens

    private static void eachByte() {
        Tester.by("Blanks, 32, 10, part TOKENS; TOKENS: WORDS, NUMBERS, single ones of ; = & | ^ < + - * / % ~ ( ) { }");
        for (int b = 0; b < 256; b++) {
            char c = (char) b;
            String text = "sketch 4;spec 1" + c + ";";
            boolean digit = c >= '0' && c <= '9';
            if (c == ' ' || c == '\n' || digit) Tester.well(0, text);
            // Behind an operator, and behind the end of spec, ; is the one that is wrong.
            else if (";=&|^<+-*/%".indexOf(c) >= 0) Tester.fault(1, 16, text);
            else Tester.fault(1, 15, text);
            // Behind the whole of a SKETCH, and ahead of it, nothing but blanks may be.
            if (c == ' ' || c == '\n') {
                Tester.well(0, "sketch 4;spec 1;" + c);
                Tester.well(0, c + "sketch 4;spec 1;");
            } else {
                Tester.fault(1, 16, "sketch 4;spec 1;" + c);
                Tester.fault(1, 0, c + " sketch 4;spec 1;");
            }
        }
        for (char c = 'a'; c <= 'z'; c++) Tester.well(0, "sketch 4;in " + c + " 1;spec " + c + ";");
        for (char c = 'A'; c <= 'Z'; c++) Tester.fault(1, 12, "sketch 4;in " + c + " 1;spec " + c + ";");
        for (char c : new char[] {'`', '[', '@', '\t', '\r', 0, 127, 160, 233}) {
            Tester.fault(1, 12, "sketch 4;in " + c + " 1;spec 1;");
            Tester.fault(1, 13, "sketch 4;in a" + c + "b 1;spec 1;");
        }
        well(1, "sketch 4;if((1+2-3*4/5%6)=7&(8<9)|~0^-1){}spec 1;");
    }

    private static void lengthOfNumbers() {
        Tester.by("A NUMBER has 1 to 5 digits (longer ones are no TOKENS)");
        well(0, "sketch 00016;spec 1;");
        fault(1, "sketch @000016;spec 1;");
        well(0, "sketch 4;in a 00004;hole b 00001 rank 00009;spec 1;");
        fault(1, "sketch 4;in a @000004;spec 1;");
        fault(1, "sketch 4;hole b @000001;spec 1;");
        fault(1, "sketch 4;hole b 1 rank @000009;spec 1;");
        well(2, "sketch 4;loop 00009{}while 1 most 00009{}spec 1;");
        fault(1, "sketch 4;loop @000009{}spec 1;");
        fault(1, "sketch 4;while 1 most @000009{}spec 1;");
        well(0, "sketch 4;spec 0;");
        well(0, "sketch 4;spec 99999;");
        fault(1, "sketch 4;spec @100000;");
        fault(1, "sketch 4;spec @000000;");
        fault(1, "sketch 4;spec 1+@9999999999999999999;");
    }

    private static void lengthOfWords() {
        Tester.by("a WORD 1 to 6 letters (longer ones are no TOKENS)");
        well(0, "sketch 4;in a 1;spec a;");
        well(0, "sketch 4;in zzzzzz 1;hole zzzzz 1;var zzzz;spec zzzzzz;");
        fault(1, "sketch 4;in @zzzzzzz 1;spec 1;");
        fault(1, "sketch 4;hole @abcdefg 1;spec 1;");
        fault(1, "sketch 4;var @abcdefg;spec 1;");
        fault(1, "sketch 4;let @abcdefg=1{}spec 1;");
        fault(1, "sketch 4;@abcdefg=1;spec 1;");
        fault(1, "sketch 4;spec @abcdefg;");
        fault(1, "@sketchs 4;spec 1;");
        fault(1, "sketch 4;@specspec 1;");
        // Words that are alike in six letters, or but for the last one, are others.
        fault(2, "sketch 4;in abcdef 1;spec @abcdeg;");
        fault(2, "sketch 4;in abcdef 1;spec @abcde;");
        fault(2, "sketch 4;in abcde 1;spec @abcdef;");
        for (char c = 'a'; c <= 'z'; c++) {
            String six = String.valueOf(c).repeat(6);
            well(0, "sketch 4;in " + six + " 1;in " + six.substring(1) + " 1;in " + six.substring(2) + " 1;hole " + six.substring(3)
                    + " 1;hole " + six.substring(4) + " 1;hole " + c + " 1;spec 1;");
            char next = c == 'z' ? 'a' : (char) (c + 1);
            well(0, "sketch 4;in " + c + next + " 1;in " + next + c + " 1;hole " + c + " 1;hole " + next + " 1;spec 1;");
        }
    }

    private static void whatStandsTogether() {
        Tester.by("WORDS (small letters, each that stand together), NUMBERS (digits, likewise)");
        well(0, "sketch4;in x4;hole y2rank3;spec1;");
        well(1, "sketch4;loop2{}spec1;");
        well(1, "sketch4;while1most2{}spec1;");
        well(2, "sketch4;if1{}loop1{}spec1;");
        fault(1, "@sk etch 4;spec 1;");
        fault(1, "sketch 1 @1;spec 1;");
        fault(1, "sketch 4;in x @y 1;spec 1;");
        fault(1, "sketch 4;spec 1@a;");
        fault(2, "sketch 4;@speca 1;");
        fault(2, "sketch 4;@ina 1;spec 1;");
        fault(1, "sketch 4;spec 1@(2);");
    }

    // ---- bounds

    private static void width() {
        Tester.by("the NUMBER: WIDTH, 1 to 16");
        for (int w = 1; w <= 16; w++) well(0, "sketch " + w + ";spec 1;");
        for (int w : new int[] {0, 17, 18, 32, 64, 65536, 99999}) fault(4, "sketch @" + w + ";spec 1;");
        fault(4, "sketch @00000;spec 1;");
        Tester.due("has 0 at 1", Tester.told("sketch 1;spec 1;").has(0), 1);
        Tester.due("has 0 at 16", Tester.told("sketch 16;spec 1;").has(0), 16);
    }

    private static void linesAheadOfStatements() {
        Tester.by("All LINES stand ahead of all STATEMENTS");
        well(1, HEAD + "var v;in x 1;hole h 1;v=x;spec 1;");
        SketchFiller mixed = Tester.told(HEAD + "var i;var j;hole d 1;var k;hole e 1;hole f 1;hole g 1;hole h 2;in a 1;var l;in b 2;in c 1;"
                + "i=a;j=b;k=c;l=h;spec 1;");
        int[] has = {6, 3, 5, 4, 4, 4, 6};
        for (int what = 0; what < 7; what++) Tester.due("in any order, has " + what, mixed.has(what), has[what]);
        int[] ends = {1, 2, 1, 3};
        for (int k = 0; k < 4; k++) Tester.due("in any order, var " + k, mixed.ends(3, 13, k), ends[k]);
        for (String line : new String[] {"in x 1;", "hole h 1;", "var w;"}) {
            well(0, HEAD + line + "spec 1;");
            well(1, HEAD + "var v;" + line + "v=1;spec 1;");
            fault(1, HEAD + "var v;v=1;@" + line + "spec 1;");
            fault(1, HEAD + "must 1;@" + line + "spec 1;");
            fault(1, HEAD + "if 1{}@" + line + "spec 1;");
            fault(1, HEAD + "if 1{@" + line + "}spec 1;");
            fault(1, HEAD + "spec 1;@" + line);
        }
        fault(1, HEAD + "spec 1;@must 1;");
        fault(1, HEAD + "spec 1;@spec 1;");
        fault(1, HEAD + "must 1;@");
    }

    private static void bits() {
        Tester.by("bits, 1 to 6");
        for (String line : new String[] {"in", "hole"}) {
            for (int bits = 1; bits <= 6; bits++) {
                SketchFiller x = Tester.told("sketch 16;" + line + " a " + bits + ";spec 1;");
                Tester.due(line + " of " + bits, x.has(line.equals("in") ? 5 : 6), bits);
                well(0, "sketch 6;" + line + " a " + bits + ";spec 1;");
            }
            for (int bits : new int[] {0, 7, 8, 16, 99999}) fault(4, "sketch 16;" + line + " a @" + bits + ";spec 1;");
        }
    }

    private static void bitsWithinWidth() {
        Tester.by("a WIDTH less than one of bits told (at those bits)");
        for (String line : new String[] {"in", "hole"}) {
            for (int w = 1; w <= 5; w++) {
                well(0, "sketch " + w + ";" + line + " a " + w + ";spec 1;");
                fault(4, "sketch " + w + ";" + line + " a @" + (w + 1) + ";spec 1;");
                fault(4, "sketch " + w + ";" + line + " a 1;" + line + " b @" + (w + 1) + ";spec 1;");
            }
        }
        // Each one's bits count, not those together.
        well(0, "sketch 1;in a 1;in b 1;in c 1;hole d 1;hole e 1;hole f 1;hole g 1;hole h 1;spec 1;");
    }

    private static void rank() {
        Tester.by("RANK, 0 to 9, without it 1");
        for (int r = 0; r <= 9; r++) Tester.due("rank " + r, Tester.told(HEAD + "hole a 2 rank " + r + ";spec 1;").hole(0, 1), r);
        Tester.due("without", Tester.told(HEAD + "hole a 2;spec 1;").hole(0, 1), 1);
        SketchFiller x = Tester.told(HEAD + "hole a 1 rank 7;hole b 1;hole c 1 rank 0;spec 1;");
        Tester.due("its own", x.hole(0, 1), 7);
        Tester.due("not that of the one ahead", x.hole(1, 1), 1);
        Tester.due("0", x.hole(2, 1), 0);
        for (int r : new int[] {10, 11, 99, 99999}) fault(4, HEAD + "hole a 2 rank @" + r + ";spec 1;");
        fault(1, HEAD + "hole a 2 rank @;spec 1;");
        fault(1, HEAD + "hole a @rank 2;spec 1;");
        fault(1, HEAD + "in a 2 @rank 2;spec 1;");
        fault(1, HEAD + "var a @rank 2;spec 1;");
    }

    private static void rounds() {
        Tester.by("loop NUMBER (1 to 9), most NUMBER (1 to 9)");
        for (int n = 1; n <= 9; n++) {
            well(1, HEAD + "loop " + n + "{}spec 1;");
            well(1, HEAD + "while 1 most " + n + "{}spec 1;");
            // The bounds are those of the text, however small the WIDTH is.
            well(2, "sketch 1;loop " + n + "{}while 1 most " + n + "{}spec 1;");
        }
        for (int n : new int[] {0, 10, 11, 99999}) {
            fault(4, HEAD + "loop @" + n + "{}spec 1;");
            fault(4, HEAD + "while 1 most @" + n + "{}spec 1;");
        }
    }

    private static void emptyBraces() {
        Tester.by("the inner { STATEMENT }: none or more; the outer { } are TOKENS");
        String[] heads = {"if 1", "if 1{}else", "loop 2", "while 1 most 2", "let a=1"};
        for (String head : heads) {
            well(1, HEAD + head + "{}spec 1;");
            well(2, HEAD + head + "{must 1;}spec 1;");
            well(3, HEAD + head + "{must 1;must 2;}spec 1;");
            fault(1, HEAD + head + "@;spec 1;");
            fault(1, HEAD + head + " @must 1;spec 1;");
            fault(1, HEAD + head + "{@spec 1;");
            fault(1, HEAD + head + "{}@}spec 1;");
            fault(1, HEAD + head + "{}@;spec 1;");
            fault(1, HEAD + head + "{@{}}spec 1;");
        }
        well(0, HEAD + "spec 1;");
    }

    private static void oneTest() {
        Tester.by("TEST: SUM [ = SUM or < SUM ]");
        for (String a : new String[] {"=", "<"}) {
            well(0, HEAD + "spec 1" + a + "2;");
            for (String b : new String[] {"=", "<"}) {
                fault(1, HEAD + "spec 1" + a + "2@" + b + "3;");
                well(0, HEAD + "spec (1" + a + "2)" + b + "3;");
                well(0, HEAD + "spec 1" + a + "2&3" + b + "4;");
                well(0, HEAD + "spec 1" + a + "2|3" + b + "4;");
                well(0, HEAD + "spec 1" + a + "2^3" + b + "4;");
            }
        }
    }

    private static void anyNumber() {
        Tester.by("PART: NUMBER (any)");
        for (int w : new int[] {1, 6, 16}) {
            for (String n : new String[] {"0", "00000", "1", "2", "65535", "65536", "99999"}) {
                well(0, "sketch " + w + ";spec " + n + ";");
                well(1, "sketch " + w + ";must " + n + "+(" + n + ");spec 1;");
            }
        }
    }

    // ---- names

    private static void namesThatAreNone() {
        Tester.by("A NAME is a WORD but sketch, in, hole, rank, var, must, if, else, loop, while, most, let, spec");
        fault(1, HEAD + "in @3;spec 1;");
        fault(1, HEAD + "hole @3;spec 1;");
        fault(1, HEAD + "var @3;spec 1;");
        fault(1, HEAD + "var @;spec 1;");
        fault(1, HEAD + "let @3=1{}spec 1;");
        fault(1, HEAD + "let @=1{}spec 1;");
        for (String word : WORDS.split(" ")) {
            fault(1, HEAD + "in @" + word + " 1;spec 1;");
            fault(1, HEAD + "hole @" + word + " 1;spec 1;");
            fault(1, HEAD + "var @" + word + ";spec 1;");
            fault(1, HEAD + "let @" + word + "=1{}spec 1;");
            fault(1, HEAD + "spec @" + word + ";");
            String shorter = word.substring(0, word.length() - 1);
            well(1, HEAD + "var " + shorter + ";" + shorter + "=1;spec " + shorter + ";");
            well(1, HEAD + "var " + word.substring(1) + "z;let " + shorter + "=1{}spec 1;");
            for (int i = 0; i < word.length(); i++) {
                String near = word.substring(0, i) + "x" + word.substring(i + 1);
                well(1, HEAD + "var " + near + ";" + near + "=1;spec " + near + ";");
            }
            if (word.length() < 6) well(1, HEAD + "var " + word + "s;" + word + "s=1;spec " + word + "s;");
        }
    }

    private static void namesGivenTwice() {
        Tester.by("No NAME is given twice while it is there");
        String[] first = {"in a 1;", "hole a 1;", "var a;"};
        for (String given : first) {
            fault(3, HEAD + given + "in @a 1;spec 1;");
            fault(3, HEAD + given + "hole @a 1;spec 1;");
            fault(3, HEAD + given + "var @a;spec 1;");
            fault(3, HEAD + given + "let @a=1{}spec 1;");
            fault(3, HEAD + given + "loop 2{let @a=1{}}spec 1;");
            well(1, HEAD + given + "in b 1;let aa=1{}spec 1;");
        }
        // Among the most that there may be, the first one and the last one.
        String all = "in a 1;in b 1;in c 1;hole d 1;hole e 1;hole f 1;hole g 1;hole h 1;var i;var j;var k;var l;";
        for (char c = 'a'; c <= 'l'; c++) fault(3, HEAD + all + "let m=1{let n=1{let @" + c + "=1{}}}spec 1;");
        fault(3, HEAD + all + "let m=1{let n=1{let @m=1{}}}spec 1;");
        fault(3, HEAD + all + "let m=1{let n=1{let @n=1{}}}spec 1;");
        well(3, HEAD + all + "let m=1{let n=1{let o=1{}}}spec 1;");
        well(6, HEAD + all + "let m=a{let n=m+b{let o=n+m+c{o=o+n+m+l;m=o;n=o;}}}spec a+b+c+d+e+f+g+h+i+j+k+l;");
    }

    private static void namesOfLets() {
        Tester.by("that of a let is there in its { } alone");
        well(2, HEAD + "let a=1{}let a=2{}spec 1;");
        well(4, HEAD + "if 1{let a=1{}}else{let a=2{}}let a=3{}spec 1;");
        well(3, HEAD + "let a=1{must a;a=a+1;}spec 1;");
        fault(3, HEAD + "let a=1{let @a=2{}}spec 1;");
        fault(3, HEAD + "let a=1{let b=2{let @a=2{}}}spec 1;");
        well(3, HEAD + "let a=1{let b=2{}let b=3{}}spec 1;");
        fault(2, HEAD + "let a=@a{}spec 1;");
        fault(2, HEAD + "let a=1{}must @a;spec 1;");
        fault(2, HEAD + "let a=1{}@a=1;spec 1;");
        fault(2, HEAD + "let a=1{}spec @a;");
        fault(2, HEAD + "let a=1{let b=2{}must @b;}spec 1;");
        well(3, HEAD + "let a=1{let b=2{}must a;}spec 1;");
    }

    private static void namesThatCanBeSet() {
        Tester.by("2 a NAME used that is not there, or is not one that can be set (ahead of = in a STATEMENT)");
        well(1, HEAD + "var a;a=1;spec a;");
        fault(2, HEAD + "@a=1;spec 1;");
        fault(2, HEAD + "in a 1;@a=1;spec 1;");
        fault(2, HEAD + "hole a 1;@a=1;spec 1;");
        fault(2, HEAD + "in a 1;loop 2{@a=1;}spec 1;");
        // The last in, the last hole and the first var stand next to one another.
        fault(2, HEAD + "in a 1;in b 1;in c 1;var v;@c=1;spec 1;");
        fault(2, HEAD + "hole a 1;hole b 1;hole c 1;hole d 1;hole e 1;var v;@e=1;spec 1;");
        well(4, HEAD + "hole e 1;var a;var b;var c;var d;a=e;b=1;c=1;d=1;spec 1;");
        String[] uses = {"spec @q;", "must @q;spec 1;", "if @q{}spec 1;", "while @q most 1{}spec 1;", "let a=@q{}spec 1;",
            "spec (@q);", "spec ~@q;", "spec -@q;", "spec 1+@q;"};
        for (String use : uses) fault(2, HEAD + use);
        for (String use : uses) {
            String text = HEAD + "in q 1;" + use.replace("@", "");
            Tester.due("there: " + text, Tester.tell(new SketchFiller(), text) >= 0, true);
        }
    }

    // ---- how many

    private static void howManyInsHolesVars() {
        Tester.by("At most 3 ins, 5 holes, 4 vars; 5 one too many: in, hole, var at its first TOKEN");
        String[] lines = {"in", "hole", "var"};
        int[] most = {3, 5, 4};
        for (int i = 0; i < 3; i++) {
            StringBuilder text = new StringBuilder(HEAD);
            for (int n = 0; n < most[i]; n++) {
                text.append(lines[i]).append(' ').append((char) ('a' + n)).append(i < 2 ? " 1;" : ";");
                well(0, text + "spec 1;");
                Tester.due(lines[i] + " " + n, Tester.told(text + "spec 1;").has(1 + i), n + 1);
            }
            fault(5, text + "@" + lines[i] + " z" + (i < 2 ? " 1;" : ";") + "spec 1;");
            fault(5, text + "@" + lines[i]);
            fault(5, text + "@" + lines[i] + " a 9;spec 1;");
            // The others are not touched by it.
            for (int j = 0; j < 3; j++) {
                if (j != i) well(0, text + lines[j] + " z" + (j < 2 ? " 1;" : ";") + "spec 1;");
            }
        }
    }

    private static void bitsTogether() {
        Tester.by("of 7 bits together; bits at the NUMBER by which they are more than 7 together");
        for (String line : new String[] {"in", "hole"}) {
            well(0, HEAD + line + " a 6;" + line + " b 1;spec 1;");
            fault(5, HEAD + line + " a 6;" + line + " b @2;spec 1;");
            well(0, HEAD + line + " a 1;" + line + " b 6;spec 1;");
            fault(5, HEAD + line + " a 2;" + line + " b @6;spec 1;");
            well(0, HEAD + line + " a 3;" + line + " b 3;" + line + " c 1;spec 1;");
            fault(5, HEAD + line + " a 3;" + line + " b 3;" + line + " c @2;spec 1;");
            fault(5, HEAD + line + " a 6;" + line + " b 1;" + line + " c @1;spec 1;");
        }
        well(0, HEAD + "hole a 1;hole b 1;hole c 1;hole d 1;hole e 3;spec 1;");
        fault(5, HEAD + "hole a 1;hole b 1;hole c 1;hole d 1;hole e @4;spec 1;");
        // Those of ins and of holes are each for themselves.
        well(0, HEAD + "in a 6;hole b 6;in c 1;hole d 1;spec 1;");
        fault(5, HEAD + "in a 6;hole b 6;in c 1;hole d @2;spec 1;");
        fault(5, HEAD + "in a 6;hole b 6;hole d 1;in c @2;spec 1;");
        SketchFiller x = Tester.told(HEAD + "in a 6;hole b 6;in c 1;hole d 1;spec 1;");
        Tester.due("of ins", x.has(5), 7);
        Tester.due("of holes", x.has(6), 7);
    }

    private static void letsWithinOneAnother() {
        Tester.by("3 lets within one another; let at this WORD");
        well(1, HEAD + "let a=1{}spec 1;");
        well(3, HEAD + "let a=1{let b=1{let c=1{}}}spec 1;");
        fault(5, HEAD + "let a=1{let b=1{let c=1{@let d=1{}}}}spec 1;");
        fault(5, HEAD + "let a=1{let b=1{let c=1{@let");
        fault(5, HEAD + "let a=1{let b=1{let c=1{@let a=q{}}}}spec 1;");
        // Those beside one another do not count.
        well(6, HEAD + "let a=1{let b=1{let c=1{}let c=1{}let c=1{}}}let a=1{}spec 1;");
        well(7, HEAD + "let a=1{let b=1{}let b=1{let c=1{}}}let d=1{let e=1{let f=1{}}}spec 1;");
        well(4, HEAD + "if 1{let a=1{let b=1{let c=1{}}}}spec 1;");
        well(4, HEAD + "let a=1{if 1{let b=1{let c=1{}}}}spec 1;");
        fault(5, HEAD + "let a=1{let b=1{let c=1{must 1;@let d=1{}}}}spec 1;");
    }

    private static void statementsInAll() {
        Tester.by("24 STATEMENTS in all; a STATEMENT at its first TOKEN");
        String[] kinds = {"v=1;", "must 1;", "if 1{}", "if 1{}else{}", "loop 1{}", "while 0 most 1{}", "let a=1{}"};
        for (String kind : kinds) {
            well(24, HEAD + "var v;" + kind.repeat(24) + "spec 1;");
            fault(5, HEAD + "var v;" + kind.repeat(24) + "@" + kind + "spec 1;");
            fault(5, HEAD + "var v;" + "must 1;".repeat(24) + "@" + kind + "spec 1;");
            well(24, HEAD + "var v;" + "must 1;".repeat(23) + kind + "spec 1;");
        }
        // Those within others count, and those that hold them.
        well(24, HEAD + "loop 1{" + "must 1;".repeat(23) + "}spec 1;");
        fault(5, HEAD + "loop 1{" + "must 1;".repeat(23) + "@must 1;}spec 1;");
        fault(5, HEAD + "loop 1{" + "must 1;".repeat(23) + "}@must 1;spec 1;");
        well(24, HEAD + "if 1{" + "must 1;".repeat(10) + "}else{" + "must 1;".repeat(10) + "}let a=1{loop 1{must 1;}}spec 1;");
        fault(5, HEAD + "if 1{" + "must 1;".repeat(10) + "}else{" + "must 1;".repeat(10) + "}let a=1{loop 1{must 1;@a=1;}}spec 1;");
        fault(5, HEAD + "must 1;".repeat(23) + "if 1{@if q{}}spec 1;");
        well(24, HEAD + "must 1;".repeat(20) + "let a=1{let b=1{let c=1{if 1{}}}}spec 1;");
    }

    private static void bracesWithinOneAnother() {
        Tester.by("4 { within one another; { at it");
        String[] heads = {"if 1", "if 1{}else", "loop 2", "while 1 most 2", "let a=1"};
        for (String head : heads) {
            well(4, HEAD + "if 1{loop 2{while 1 most 2{" + head + "{}}}}spec 1;");
            if (!head.equals("if 1{}else")) {
                fault(5, HEAD + "if 1{loop 2{while 1 most 2{if 1{" + head + "@{}}}}}spec 1;");
                fault(5, HEAD + "if 1{loop 2{while 1 most 2{if 1{" + head + "@{");
            }
            well(5, HEAD + head + "{if 1{loop 2{while 1 most 2{}}}}" + head.replace("a=", "b=") + "{}spec 1;");
            fault(5, HEAD + head + "{if 1{loop 2{while 1 most 2{must 1;if 1@{}}}}}spec 1;");
        }
        fault(5, HEAD + "let a=1{let b=1{let c=1{if 1{loop 2@{}}}}}spec 1;");
        // Those beside one another do not count.
        well(8, HEAD + "if 1{if 1{if 1{if 1{}else{}if 1{}}else{if 1{}}}if 1{}}if 1{}spec 1;");
    }

    private static void openWithinOneAnother() {
        Tester.by("6 of ~ - ( that are open within one another; ~ - ( at it");
        for (int mix = 0; mix < 729; mix++) {
            StringBuilder open = new StringBuilder();
            StringBuilder close = new StringBuilder();
            for (int i = 0, rest = mix; i < 6; i++, rest /= 3) {
                open.append("~-(".charAt(rest % 3));
                if (rest % 3 == 2) close.append(')');
            }
            String text = HEAD + "spec " + open;
            Tester.due(text, Tester.tell(new SketchFiller(), text + "1" + close + ";"), 0);
            for (String seventh : new String[] {"~1", "-1", "(1)"}) {
                int place = text.length();
                Tester.due(text + seventh, Tester.tell(new SketchFiller(), text + seventh + close + ";"), -2 - (8 * place + 5));
            }
        }
        String[] places = {"spec #;", "must #;spec 1;", "v=#;spec 1;", "if #{}spec 1;", "while # most 1{}spec 1;", "let a=#{}spec 1;"};
        for (String e : places) {
            String text = HEAD + "var v;" + e;
            well(e.startsWith("spec") ? 0 : 1, text.replace("#", "(~(-((1)))-((((-1)))))"));
            fault(5, text.replace("#", "(~(-((@(1)))))"));
            fault(5, text.replace("#", "~~~~~~@~1"));
        }
        // Each E begins with none open.
        well(2, HEAD + "must ((((((1))))));must ------1;spec ~~~~~~1;");
    }

    private static void openTillUnaryEnds() {
        Tester.by("(~, - till their UNARY ends)");
        for (String op : new String[] {"+", "-", "*", "/", "%", "&", "|", "^", "=", "<"}) {
            well(0, HEAD + "spec ~~~~~~1" + op + "------1;");
            well(0, HEAD + "spec (((((~1" + op + "-1)))))" + op + "~1;");
            well(0, HEAD + "spec ((((((1" + op + "1" + (op.equals("=") || op.equals("<") ? "" : op + "1") + "))))));");
            fault(5, HEAD + "spec ((((((1" + op + "@-1))))));");
            fault(5, HEAD + "spec ((((((1" + op + "@~1))))));");
            fault(5, HEAD + "spec ((((((1" + op + "@(1)))))));");
            fault(5, HEAD + "spec (((((~@(1" + op + "1)))))));");
        }
    }

    // ---- which fault

    private static void leastPlace() {
        Tester.by("FAULTS, the one whose place is least");
        fault(4, "sketch @0;in a 9;spec ?;");
        fault(4, "sketch 3;in a @4;in a 9;spec q?;");
        fault(3, "sketch 3;in a 3;in @a 9;spec ?;");
        fault(2, "sketch 3;must @q;in a 1;?");
        fault(1, "sketch 3;must 1@?q");
        fault(1, "sketch 3;must @;q=1;");
        fault(5, "sketch 3;in a 1;in b 1;in c 1;@in a 9");
        fault(5, "sketch 6;in a 6;in b @2?");
        // A byte that begins no TOKEN is at its own place, a longer WORD at its first byte.
        fault(1, "sketch 3;spec @abcdefg");
        fault(2, "sketch 3;spec @q abcdefg");
        fault(1, "sketch 3;@;abcdefg");
    }

    private static void firstOfTheList() {
        Tester.by("of one place the first of this list");
        // 1 ahead of 5: what would be one too many cannot stand there anyway.
        fault(1, HEAD + "in a 1;in b 1;in c 1;must 1;@in d 1;spec 1;");
        fault(1, HEAD + "must 1;".repeat(24) + "@else{}spec 1;");
        fault(1, HEAD + "if 1{if 1{if 1{if 1{@{}}}}}spec 1;");
        fault(1, HEAD + "spec ((((((1@(1)))))));");
        fault(1, HEAD + "spec ((((((1@~1))))));");
        // 1 ahead of 2 and 3: a WORD that is no NAME, or a NAME where none goes on.
        fault(1, HEAD + "spec 1 @q;");
        fault(1, HEAD + "in a 1;in b @a;spec 1;");
        // 2 ahead of 5: a NAME that is not there, or cannot be set, begins a STATEMENT too many.
        fault(2, HEAD + "must 1;".repeat(24) + "@q=1;spec 1;");
        fault(2, HEAD + "in a 1;" + "must 1;".repeat(24) + "@a=1;spec 1;");
        fault(5, HEAD + "var a;" + "must 1;".repeat(24) + "@a=1;spec 1;");
        // 4 ahead of 5: bits out of bounds, or of more than the WIDTH, and too many together.
        fault(4, "sketch 6;in a 6;in b @7;spec 1;");
        fault(4, "sketch 3;in a 3;in b 3;in c @4;spec 1;");
        fault(4, "sketch 3;hole a 3;hole b 3;hole c @0;spec 1;");
        fault(5, "sketch 3;hole a 3;hole b 3;hole c @2;spec 1;");
    }
}
