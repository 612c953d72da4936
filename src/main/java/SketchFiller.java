import java.util.Arrays;
import java.util.NoSuchElementException;

/**
 * Sketch filler: programs with holes and a spec, guesses refuted by inputs, inputs kept, loops
 * unrolled, the first that stands for all tried shown.
 */
public final class SketchFiller {
    public static final int NONE = -1;

    private static final int TAPE_BYTES = 800;
    private static final int FED_BYTES = 20;

    // What no SKETCH may have more of.
    private static final int MOST_INS = 3;
    private static final int MOST_HOLES = 5;
    private static final int MOST_VARS = 4;
    private static final int MOST_LETS = 3;
    private static final int MOST_STATEMENTS = 24;
    private static final int MOST_BRACES = 4;
    private static final int MOST_OPEN = 6;
    private static final int MOST_BITS = 6;
    private static final int MOST_BITS_TOGETHER = 7;
    private static final int MOST_WIDTH = 16;
    private static final int MOST_RANK = 9;
    private static final int MOST_ROUNDS = 9;
    private static final int MOST_STEPS = 120;
    private static final int MOST_KEPT = 40;
    private static final int MOST_GO = 100;

    // Kinds of TOKENS; a sign is its own kind, so these keep clear of the signs.
    private static final int END = 0;
    private static final int BAD = 1;
    private static final int HOLE_USED = 2;
    private static final int NUMBER = '0';
    private static final int NAME = 'a';
    private static final int WORD_SKETCH = 128;
    private static final int WORD_IN = 129;
    private static final int WORD_HOLE = 130;
    private static final int WORD_RANK = 131;
    private static final int WORD_VAR = 132;
    private static final int WORD_MUST = 133;
    private static final int WORD_IF = 134;
    private static final int WORD_ELSE = 135;
    private static final int WORD_LOOP = 136;
    private static final int WORD_WHILE = 137;
    private static final int WORD_MOST = 138;
    private static final int WORD_LET = 139;
    private static final int WORD_SPEC = 140;

    private static final String SIGNS = ";=&|^<+-*/%~(){}";
    private static final int LONGEST_WORD = 6;
    private static final int LONGEST_NUMBER = 5;
    // Each word fills six places, in the order of the kinds above.
    private static final String KEYWORDS =
            "sketchin    hole  rank  var   must  if    else  loop  while most  let   spec  ";

    // Kinds of FAULTS.
    private static final int FAULT_TOKEN = 1;
    private static final int FAULT_NOT_THERE = 2;
    private static final int FAULT_THERE = 3;
    private static final int FAULT_BOUNDS = 4;
    private static final int FAULT_TOO_MANY = 5;

    // Where the values of a RUN stand.
    private static final int FIRST_HOLE_SLOT = MOST_INS;
    private static final int FIRST_VAR_SLOT = FIRST_HOLE_SLOT + MOST_HOLES;
    private static final int FIRST_LET_SLOT = FIRST_VAR_SLOT + MOST_VARS;
    private static final int SLOTS = FIRST_LET_SLOT + MOST_LETS;

    // What the code of a RUN does; an operator between two values is its own sign.
    private static final int PUSH = 1;
    private static final int LOAD = 2;
    private static final int STORE = 3;
    private static final int NEGATE = 4;
    private static final int TURN_BITS = 5;
    private static final int STEP = 6;
    private static final int JUMP = 7;
    private static final int JUMP_IF_ZERO = 8;
    private static final int LOOP_BEGIN = 9;
    private static final int LOOP_AGAIN = 10;
    private static final int WHILE_BEGIN = 11;
    private static final int WHILE_TEST = 12;
    private static final int TEST_MUST = 13;
    private static final int TEST_SPEC = 14;

    // An E holds back five values at most, one for each level; six may be open around it.
    private static final int STACK = 64;
    // Code goes back only to go round again, so 120 STEPS through code of 800 stay far below.
    private static final int MOST_MOVES = 1000000;

    // How E's operators bind, the loosest first.
    private static final int LEVEL_OR = 0;
    private static final int LEVEL_AND = 1;
    private static final int LEVEL_TEST = 2;
    private static final int LEVEL_SUM = 3;
    private static final int LEVEL_PRODUCT = 4;
    private static final int LEVEL_UNARY = 5;

    // VERDICTS.
    private static final int RUNNING = -1;
    private static final int STANDS = 0;
    private static final int SPEC_ZERO = 1;
    private static final int MUST_ZERO = 2;
    private static final int DIVIDED_BY_ZERO = 3;
    private static final int WHILE_TOO_LONG = 4;
    private static final int TOO_MANY_STEPS = 5;

    private static final int SEEKING = 0;
    private static final int FOUND = 1;
    private static final int NO = 2;

    private static final int ORDER_GREATEST = 1;
    private static final int ORDER_SHARPEST = 2;

    private static final int GROUP_LEFT = 0;
    private static final int GROUP_TRUE = 1;
    private static final int GROUP_NOT_OUT = 2;
    private static final int GROUPS = 3;

    private static final int FIRST_KEPT_STATE = 10;
    private static final int ANSWER_ENDED = -2;
    private static final int ANSWER_FULL = -3;
    private static final long ALL_KEPT = -1L;

    private final Tape tape = new Tape();
    // Kept from one SKETCH to the next, so that many SKETCHES do not make many rows.
    private byte[] verdictRow = new byte[0];
    // null: there is no SKETCH.
    private Search search = null;

    public SketchFiller() {
    }

    public int feed(int a, int b, int c, int d, int e) {
        if (tape.size() + FED_BYTES > TAPE_BYTES) {
            return NONE;
        }
        tape.put(a);
        tape.put(b);
        tape.put(c);
        tape.put(d);
        tape.put(e);
        return tape.size();
    }

    public int sketch(int n) {
        if (n < 0 || n > tape.size()) {
            return NONE;
        }
        Tokens tokens = new Tokens(tape.takeFirst(n));
        tokens.read();
        Parser parser = new Parser(tokens);
        if (!parser.wholeSketch()) {
            return -2 - parser.fault();
        }
        Program program = parser.program();
        program.rankGuesses();
        int cells = program.guesses() * program.inputs();
        if (verdictRow.length < cells) {
            verdictRow = new byte[cells];
        }
        Verdicts verdicts = new Verdicts(program, verdictRow);
        verdicts.forget();
        search = new Search(program, verdicts);
        return program.statements;
    }

    public int has(int what) {
        if (search == null) {
            return NONE;
        }
        Program program = search.program;
        switch (what) {
            case 0: return program.width;
            case 1: return program.ins;
            case 2: return program.holes;
            case 3: return program.vars;
            case 4: return program.statements;
            case 5: return program.inBits;
            case 6: return program.holeBits;
            default: return NONE;
        }
    }

    public int hole(int k, int what) {
        if (search == null || !search.program.hasHole(k)) {
            return NONE;
        }
        switch (what) {
            case 0: return search.program.bitsOfHole[k];
            case 1: return search.program.rankOfHole[k];
            case 2: return search.pinOf(k);
            default: return NONE;
        }
    }

    public int value(int guess, int k) {
        if (search == null || !search.program.hasGuess(guess) || !search.program.hasHole(k)) {
            return NONE;
        }
        return search.program.valueOf(guess, k);
    }

    public int cost(int guess) {
        if (search == null || !search.program.hasGuess(guess)) {
            return NONE;
        }
        return search.program.costOf(guess);
    }

    public int ranked(int i) throws NoSuchElementException {
        if (search == null || !search.program.hasGuess(i)) {
            throw new NoSuchElementException("no such guess");
        }
        return search.program.guessAt(i);
    }

    // ---- runs

    public int verdict(int guess, int input) {
        if (search == null || !search.program.hasRun(guess, input)) {
            return NONE;
        }
        return search.verdicts.verdictOf(guess, input);
    }

    public int steps(int guess, int input) {
        if (search == null || !search.program.hasRun(guess, input)) {
            return NONE;
        }
        return search.verdicts.ran(guess, input).stepsBegun();
    }

    public int ends(int guess, int input, int k) {
        if (search == null || !search.program.hasRun(guess, input)) {
            return NONE;
        }
        if (k < 0 || k >= search.program.vars) {
            return NONE;
        }
        Machine machine = search.verdicts.ran(guess, input);
        if (machine.outcome() > SPEC_ZERO) {
            return -2;
        }
        return machine.varAt(k);
    }

    public int refuter(int guess) {
        if (search == null || !search.program.hasGuess(guess)) {
            return -2;
        }
        return search.verdicts.leastRefuter(guess);
    }

    // ---- the search

    public int guess() {
        return search == null ? NONE : search.toGuess();
    }

    public int check() {
        return search == null ? NONE : search.toCheck();
    }

    public int go(int n) {
        if (search == null || n < 1 || n > MOST_GO) {
            return NONE;
        }
        int times = 0;
        for (int i = 0; i < n && search.isSeeking(); i++) {
            int answer = search.hasCurrent() ? search.toCheck() : search.toGuess();
            if (answer == ANSWER_FULL) {
                return times;
            }
            times++;
        }
        return times;
    }

    public boolean pin(int hole, int value) {
        if (search == null || !search.program.hasHole(hole)) {
            return false;
        }
        if (value < NONE || value >= 1 << search.program.bitsOfHole[hole]) {
            return false;
        }
        return search.pinTo(hole, value);
    }

    public int keep(int input) {
        if (search == null || !search.program.hasInput(input)) {
            return NONE;
        }
        return search.keepInput(input);
    }

    public int drop(int i) {
        if (search == null || !search.hasKept(i)) {
            return NONE;
        }
        return search.dropKept(i);
    }

    public int set(int what, int v) {
        if (search == null || v < 0) {
            return NONE;
        }
        if (what == 0 && v <= MOST_ROUNDS) {
            return search.tellUnroll(v);
        }
        if (what == 1 && v <= ORDER_SHARPEST) {
            return search.tellOrder(v);
        }
        return NONE;
    }

    public int state(int what) {
        if (what == 5) {
            return tape.size();
        }
        if (search == null) {
            return NONE;
        }
        if (what >= FIRST_KEPT_STATE) {
            return search.keptAt(what - FIRST_KEPT_STATE);
        }
        switch (what) {
            case 0: return search.state;
            case 1: return search.current;
            case 2: return search.keptCount;
            case 3: return search.verdicts.unroll();
            case 4: return search.order;
            default: return NONE;
        }
    }

    // ---- what is left, what is true

    public int many(int what) {
        if (search == null || what < 0 || what >= 2 * GROUPS) {
            return NONE;
        }
        return what < GROUPS ? search.countOf(what) : search.firstOf(what - GROUPS);
    }

    public int by(int guess, int verdict) {
        if (search == null || !search.program.hasGuess(guess)) {
            return NONE;
        }
        if (verdict < STANDS || verdict > TOO_MANY_STEPS) {
            return NONE;
        }
        return search.verdicts.inputsWith(guess, verdict);
    }

    public int refutes(int input) {
        if (search == null || !search.program.hasInput(input)) {
            return NONE;
        }
        search.markLeft();
        return search.leftRefutedBy(input);
    }

    public int sharpest(int what) {
        if (search == null || what < 0 || what > 1) {
            return NONE;
        }
        search.markLeft();
        int input = search.sharpestOf(NONE);
        if (what == 0) {
            return input;
        }
        return input == NONE ? 0 : search.leftRefutedBy(input);
    }

    public int free(int guess, int k) {
        if (search == null || !search.program.hasGuess(guess) || !search.program.hasHole(k)) {
            return NONE;
        }
        Program program = search.program;
        int values = 0;
        for (int v = 0; v < 1 << program.bitsOfHole[k]; v++) {
            if (search.verdicts.leastRefuter(program.withValue(guess, k, v)) == NONE) {
                values++;
            }
        }
        return values;
    }

    public int needed(int i) {
        if (search == null || !search.hasKept(i)) {
            return NONE;
        }
        return search.leftWith(ALL_KEPT & ~(1L << i)) > search.leftWith(ALL_KEPT) ? 1 : 0;
    }

    public int core(int i) {
        if (search == null || i < NONE) {
            return NONE;
        }
        long stay = search.coreOfKept();
        return i == NONE ? Long.bitCount(stay) : search.keptOf(stay, i);
    }

    public int kinds() {
        if (search == null) {
            return NONE;
        }
        search.markLeft();
        return search.unlikeLeft();
    }

    public boolean alike(int guess, int other) {
        if (search == null || !search.program.hasGuess(guess) || !search.program.hasGuess(other)) {
            return false;
        }
        return search.verdicts.areAlike(guess, other);
    }

    // ---- what it looks like

    public int shown(int guess, int i) {
        if (search == null || !search.program.hasGuess(guess) || i < NONE) {
            return NONE;
        }
        return i == NONE ? search.program.shownBytes(guess) : search.program.shownByte(guess, i);
    }

    /** THE TAPE. */
    private static final class Tape {
        private final int[] bytes = new int[TAPE_BYTES];
        private int size = 0;

        int size() {
            return size;
        }

        void put(int number) {
            for (int shift = 24; shift >= 0; shift -= 8) {
                if (size < bytes.length) {
                    bytes[size] = (number >>> shift) & 255;
                    size++;
                }
            }
        }

        int[] takeFirst(int n) {
            int taken = Math.max(0, Math.min(n, size));
            size = 0;
            return Arrays.copyOf(bytes, taken);
        }
    }

    /** The TOKENS of a text, up to its end or to the first byte that begins none. */
    private static final class Tokens {
        private final int[] text;
        private final int[] kind;
        private final int[] place;
        private final int[] length;
        // A NUMBER's value, a NAME as a number of its own, of a hole that is used which one.
        private final int[] number;
        private int count = 0;

        Tokens(int[] text) {
            this.text = text;
            int most = text.length + 1;
            kind = new int[most];
            place = new int[most];
            length = new int[most];
            number = new int[most];
        }

        void read() {
            for (int at = 0; at < text.length; at++) {
                if (text[at] == ' ' || text[at] == '\n') {
                    continue;
                }
                int bytes = bytesTogether(at);
                int found = kindAt(at, bytes);
                add(found, at, bytes);
                if (found == BAD) {
                    return;
                }
                at += bytes - 1;
            }
            add(END, text.length, 0);
        }

        private int bytesTogether(int start) {
            int at = start;
            if (isLetter(text[start])) {
                while (at < text.length && isLetter(text[at])) {
                    at++;
                }
                return at - start;
            }
            while (at < text.length && isDigit(text[at])) {
                at++;
            }
            return at == start ? 1 : at - start;
        }

        private int kindAt(int at, int bytes) {
            int first = text[at];
            if (isLetter(first)) {
                return bytes > LONGEST_WORD ? BAD : wordAt(at, bytes);
            }
            if (isDigit(first)) {
                return bytes > LONGEST_NUMBER ? BAD : NUMBER;
            }
            return SIGNS.indexOf((char) first) >= 0 ? first : BAD;
        }

        private int wordAt(int at, int bytes) {
            int words = KEYWORDS.length() / LONGEST_WORD;
            for (int k = 0; k < words; k++) {
                if (isKeyword(at, bytes, k * LONGEST_WORD)) {
                    return WORD_SKETCH + k;
                }
            }
            return NAME;
        }

        private boolean isKeyword(int at, int bytes, int start) {
            for (int j = 0; j < LONGEST_WORD; j++) {
                int letter = j < bytes && at + j < text.length ? text[at + j] : ' ';
                if (start + j >= KEYWORDS.length() || letter != KEYWORDS.charAt(start + j)) {
                    return false;
                }
            }
            return true;
        }

        private void add(int found, int at, int bytes) {
            if (count >= kind.length) {
                return;
            }
            kind[count] = found;
            place[count] = at;
            length[count] = bytes;
            number[count] = numberAt(found, at, bytes);
            count++;
        }

        private int numberAt(int found, int at, int bytes) {
            if (found != NUMBER && found != NAME) {
                return 0;
            }
            // Base 27 keeps words of other lengths apart, and six letters within an int.
            int base = found == NUMBER ? 10 : 27;
            int zero = found == NUMBER ? '0' : 'a' - 1;
            int sum = 0;
            for (int j = at; j < at + bytes && j < text.length; j++) {
                sum = sum * base + (text[j] - zero);
            }
            return sum;
        }

        private static boolean isLetter(int c) {
            return c >= 'a' && c <= 'z';
        }

        private static boolean isDigit(int c) {
            return c >= '0' && c <= '9';
        }

        int count() {
            return count;
        }

        int kindOf(int t) {
            return t >= 0 && t < count ? kind[t] : END;
        }

        int placeOf(int t) {
            return t >= 0 && t < count ? place[t] : text.length;
        }

        int numberOf(int t) {
            return t >= 0 && t < count ? number[t] : 0;
        }

        void markHole(int t, int k) {
            if (t >= 0 && t < count) {
                kind[t] = HOLE_USED;
                number[t] = k;
            }
        }

        int lengthOf(int t) {
            return t >= 0 && t < count ? length[t] : 0;
        }

        int byteOf(int t, int j) {
            int at = placeOf(t) + j;
            return at >= 0 && at < text.length ? text[at] : NONE;
        }
    }

    /** The NAMES that are there, each with its slot. */
    private static final class Names {
        private final int[] name = new int[SLOTS];
        private final int[] slot = new int[SLOTS];
        private int count = 0;

        int slotOf(int wanted) {
            for (int i = 0; i < count && i < name.length; i++) {
                if (name[i] == wanted) {
                    return slot[i];
                }
            }
            return NONE;
        }

        void add(int given, int itsSlot) {
            if (count < name.length) {
                name[count] = given;
                slot[count] = itsSlot;
                count++;
            }
        }

        void removeLatest() {
            if (count > 0) {
                count--;
            }
        }
    }

    /** Reads a SKETCH from its TOKENS; every method tells whether all is well so far. */
    private static final class Parser {
        private final Tokens tokens;
        private final Program program;
        private final Names names = new Names();
        private int at = 0;
        private int number = 0;
        private int fault = 0;

        Parser(Tokens tokens) {
            this.tokens = tokens;
            this.program = new Program(tokens);
        }

        int fault() {
            return fault;
        }

        Program program() {
            return program;
        }

        boolean wholeSketch() {
            if (!take(WORD_SKETCH) || !takeNumber(1, MOST_WIDTH)) {
                return false;
            }
            program.width = number;
            if (!take(';') || !lines()) {
                return false;
            }
            program.firstShown = at;
            return block(0, 0) && spec() && take(END);
        }

        private int kind() {
            return tokens.kindOf(at);
        }

        // TOKENS are looked at from left to right, so the first FAULT met has the least place.
        private boolean fail(int faultKind) {
            fault = 8 * tokens.placeOf(at) + faultKind;
            return false;
        }

        private boolean take(int wanted) {
            if (kind() != wanted) {
                return fail(FAULT_TOKEN);
            }
            at++;
            return true;
        }

        private boolean takeNumber(int least, int most) {
            if (kind() != NUMBER) {
                return fail(FAULT_TOKEN);
            }
            number = tokens.numberOf(at);
            if (number < least || number > most) {
                return fail(FAULT_BOUNDS);
            }
            at++;
            return true;
        }

        private boolean takeBits(int already) {
            if (kind() != NUMBER) {
                return fail(FAULT_TOKEN);
            }
            number = tokens.numberOf(at);
            if (number < 1 || number > MOST_BITS || number > program.width) {
                return fail(FAULT_BOUNDS);
            }
            if (already + number > MOST_BITS_TOGETHER) {
                return fail(FAULT_TOO_MANY);
            }
            at++;
            return true;
        }

        private boolean takeNewName() {
            if (kind() != NAME) {
                return fail(FAULT_TOKEN);
            }
            number = tokens.numberOf(at);
            if (names.slotOf(number) != NONE) {
                return fail(FAULT_THERE);
            }
            at++;
            return true;
        }

        private boolean lines() {
            for (int i = 0; i < tokens.count(); i++) {
                boolean well;
                switch (kind()) {
                    case WORD_IN: well = inLine(); break;
                    case WORD_HOLE: well = holeLine(); break;
                    case WORD_VAR: well = varLine(); break;
                    default: return true;
                }
                if (!well) {
                    return false;
                }
            }
            return true;
        }

        private boolean inLine() {
            if (program.ins >= MOST_INS) {
                return fail(FAULT_TOO_MANY);
            }
            at++;
            if (!takeNewName()) {
                return false;
            }
            names.add(number, program.ins);
            if (!takeBits(program.inBits)) {
                return false;
            }
            program.addIn(number);
            return take(';');
        }

        private boolean holeLine() {
            if (program.holes >= MOST_HOLES) {
                return fail(FAULT_TOO_MANY);
            }
            at++;
            if (!takeNewName()) {
                return false;
            }
            names.add(number, FIRST_HOLE_SLOT + program.holes);
            if (!takeBits(program.holeBits)) {
                return false;
            }
            int bits = number;
            number = 1;
            if (kind() == WORD_RANK) {
                at++;
                if (!takeNumber(0, MOST_RANK)) {
                    return false;
                }
            }
            program.addHole(bits, number);
            return take(';');
        }

        private boolean varLine() {
            if (program.vars >= MOST_VARS) {
                return fail(FAULT_TOO_MANY);
            }
            at++;
            if (!takeNewName()) {
                return false;
            }
            names.add(number, FIRST_VAR_SLOT + program.vars);
            program.vars++;
            return take(';');
        }

        private boolean block(int braces, int lets) {
            for (int i = 0; i < tokens.count() && beginsStatement(); i++) {
                if (!statement(braces, lets)) {
                    return false;
                }
            }
            return true;
        }

        private boolean beginsStatement() {
            switch (kind()) {
                case NAME:
                case WORD_MUST:
                case WORD_IF:
                case WORD_LOOP:
                case WORD_WHILE:
                case WORD_LET:
                    return true;
                default:
                    return false;
            }
        }

        private boolean statement(int braces, int lets) {
            int slot = kind() == NAME ? names.slotOf(tokens.numberOf(at)) : FIRST_VAR_SLOT;
            if (slot < FIRST_VAR_SLOT) {
                return fail(FAULT_NOT_THERE);
            }
            if (program.statements >= MOST_STATEMENTS) {
                return fail(FAULT_TOO_MANY);
            }
            if (kind() == WORD_LET && lets >= MOST_LETS) {
                return fail(FAULT_TOO_MANY);
            }
            program.statements++;
            program.emit(STEP, 0, 0);
            int first = kind();
            at++;
            switch (first) {
                case NAME: return take('=') && endedBy(STORE, slot);
                case WORD_MUST: return endedBy(TEST_MUST, 0);
                case WORD_IF: return ifStatement(braces, lets);
                case WORD_LOOP: return loopStatement(braces, lets);
                case WORD_WHILE: return whileStatement(braces, lets);
                default: return letStatement(braces, lets);
            }
        }

        private boolean endedBy(int op, int arg) {
            if (!expression(LEVEL_OR, 0) || !take(';')) {
                return false;
            }
            program.emit(op, arg, 0);
            return true;
        }

        private boolean braced(int braces, int lets) {
            if (kind() != '{') {
                return fail(FAULT_TOKEN);
            }
            if (braces >= MOST_BRACES) {
                return fail(FAULT_TOO_MANY);
            }
            at++;
            return block(braces + 1, lets) && take('}');
        }

        private boolean ifStatement(int braces, int lets) {
            if (!expression(LEVEL_OR, 0)) {
                return false;
            }
            int past = program.emit(JUMP_IF_ZERO, 0, 0);
            if (!braced(braces, lets)) {
                return false;
            }
            if (kind() == WORD_ELSE) {
                at++;
                int end = program.emit(JUMP, 0, 0);
                program.aim(past, program.size());
                past = end;
                if (!braced(braces, lets)) {
                    return false;
                }
            }
            program.aim(past, program.size());
            return true;
        }

        private boolean loopStatement(int braces, int lets) {
            if (!takeNumber(1, MOST_ROUNDS)) {
                return false;
            }
            program.emit(LOOP_BEGIN, braces, number);
            int round = program.emit(STEP, 0, 0);
            if (!braced(braces, lets)) {
                return false;
            }
            program.emit(LOOP_AGAIN, braces, round);
            return true;
        }

        private boolean whileStatement(int braces, int lets) {
            int begin = program.emit(WHILE_BEGIN, braces, 0);
            if (!expression(LEVEL_OR, 0) || !take(WORD_MOST) || !takeNumber(1, MOST_ROUNDS)) {
                return false;
            }
            program.aim(begin, number);
            int test = program.emit(WHILE_TEST, braces, 0);
            program.emit(STEP, 0, 0);
            if (!braced(braces, lets)) {
                return false;
            }
            program.emit(JUMP, 0, begin + 1);
            program.aim(test, program.size());
            return true;
        }

        private boolean letStatement(int braces, int lets) {
            if (!takeNewName()) {
                return false;
            }
            int given = number;
            if (!take('=') || !expression(LEVEL_OR, 0)) {
                return false;
            }
            int slot = FIRST_LET_SLOT + lets;
            program.emit(STORE, slot, 0);
            names.add(given, slot);
            boolean well = braced(braces, lets + 1);
            names.removeLatest();
            return well;
        }

        private boolean spec() {
            return take(WORD_SPEC) && endedBy(TEST_SPEC, 0);
        }

        private boolean expression(int level, int open) {
            if (level >= LEVEL_UNARY) {
                return unary(open);
            }
            if (!expression(level + 1, open)) {
                return false;
            }
            // A TEST has one = or < at most, the others as many operators as are told.
            int most = level == LEVEL_TEST ? 1 : tokens.count();
            for (int i = 0; i < most && levelOf(kind()) == level; i++) {
                int op = kind();
                at++;
                if (!expression(level + 1, open)) {
                    return false;
                }
                program.emit(op, 0, 0);
            }
            return true;
        }

        private static int levelOf(int op) {
            switch (op) {
                case '|':
                case '^':
                    return LEVEL_OR;
                case '&':
                    return LEVEL_AND;
                case '=':
                case '<':
                    return LEVEL_TEST;
                case '+':
                case '-':
                    return LEVEL_SUM;
                case '*':
                case '/':
                case '%':
                    return LEVEL_PRODUCT;
                default:
                    return NONE;
            }
        }

        private boolean unary(int open) {
            int sign = kind();
            if (sign != '~' && sign != '-') {
                return part(open);
            }
            if (open >= MOST_OPEN) {
                return fail(FAULT_TOO_MANY);
            }
            at++;
            if (!unary(open + 1)) {
                return false;
            }
            program.emit(sign == '~' ? TURN_BITS : NEGATE, 0, 0);
            return true;
        }

        private boolean part(int open) {
            switch (kind()) {
                case NUMBER:
                    program.emit(PUSH, tokens.numberOf(at), 0);
                    at++;
                    return true;
                case NAME:
                    return nameUsed();
                case '(':
                    if (open >= MOST_OPEN) {
                        return fail(FAULT_TOO_MANY);
                    }
                    at++;
                    return expression(LEVEL_OR, open + 1) && take(')');
                default:
                    return fail(FAULT_TOKEN);
            }
        }

        private boolean nameUsed() {
            int slot = names.slotOf(tokens.numberOf(at));
            if (slot == NONE) {
                return fail(FAULT_NOT_THERE);
            }
            program.emit(LOAD, slot, 0);
            if (slot >= FIRST_HOLE_SLOT && slot < FIRST_VAR_SLOT) {
                tokens.markHole(at, slot - FIRST_HOLE_SLOT);
            }
            at++;
            return true;
        }
    }

    /** What a SKETCH tells: its ins and holes, the code of its RUNS, how its GUESSES go. */
    private static final class Program {
        private int width = 1;
        private int ins = 0;
        private int holes = 0;
        private int vars = 0;
        private int statements = 0;
        private int inBits = 0;
        private int holeBits = 0;
        private final int[] bitsOfIn = new int[MOST_INS];
        private final int[] bitsOfHole = new int[MOST_HOLES];
        private final int[] rankOfHole = new int[MOST_HOLES];
        private final int[] op;
        private final int[] arg;
        private final int[] target;
        private int size = 0;
        private int[] costs = new int[0];
        private int[] ranking = new int[0];
        private final Tokens tokens;
        private int firstShown = 0;

        Program(Tokens tokens) {
            this.tokens = tokens;
            // No STATEMENT has more code than TOKENS.
            int most = tokens.count();
            op = new int[most];
            arg = new int[most];
            target = new int[most];
        }

        void addIn(int bits) {
            if (ins < bitsOfIn.length) {
                bitsOfIn[ins] = bits;
                inBits += bits;
                ins++;
            }
        }

        void addHole(int bits, int rank) {
            if (holes < bitsOfHole.length) {
                bitsOfHole[holes] = bits;
                rankOfHole[holes] = rank;
                holeBits += bits;
                holes++;
            }
        }

        int emit(int newOp, int newArg, int newTarget) {
            if (size < op.length) {
                op[size] = newOp;
                arg[size] = newArg;
                target[size] = newTarget;
                size++;
            }
            return size - 1;
        }

        void aim(int index, int newTarget) {
            if (index >= 0 && index < size) {
                target[index] = newTarget;
            }
        }

        int size() {
            return size;
        }

        int mask() {
            return (1 << width) - 1;
        }

        int guesses() {
            return 1 << holeBits;
        }

        int inputs() {
            return 1 << inBits;
        }

        boolean hasHole(int k) {
            return k >= 0 && k < holes && k < bitsOfHole.length;
        }

        boolean hasGuess(int guess) {
            return guess >= 0 && guess < guesses();
        }

        boolean hasInput(int input) {
            return input >= 0 && input < inputs();
        }

        boolean hasRun(int guess, int input) {
            return hasGuess(guess) && hasInput(input);
        }

        private int shiftOfHole(int k) {
            int shift = 0;
            for (int later = k + 1; later < holes; later++) {
                shift += bitsOfHole[later];
            }
            return shift;
        }

        int valueOf(int guess, int k) {
            return hasHole(k) ? (guess >> shiftOfHole(k)) & ((1 << bitsOfHole[k]) - 1) : 0;
        }

        int withValue(int guess, int k, int v) {
            if (!hasHole(k)) {
                return guess;
            }
            int shift = shiftOfHole(k);
            int bits = ((1 << bitsOfHole[k]) - 1) << shift;
            return (guess & ~bits) | ((v << shift) & bits);
        }

        void fillSlots(int[] slots, int guess, int input) {
            if (slots.length < SLOTS) {
                return;
            }
            Arrays.fill(slots, 0);
            int restOfInput = input;
            for (int k = ins - 1; k >= 0; k--) {
                slots[k] = restOfInput & ((1 << bitsOfIn[k]) - 1);
                restOfInput >>= bitsOfIn[k];
            }
            int restOfGuess = guess;
            for (int k = holes - 1; k >= 0; k--) {
                slots[FIRST_HOLE_SLOT + k] = restOfGuess & ((1 << bitsOfHole[k]) - 1);
                restOfGuess >>= bitsOfHole[k];
            }
        }

        void rankGuesses() {
            int many = guesses();
            costs = new int[many];
            ranking = new int[many];
            for (int guess = 0; guess < many; guess++) {
                for (int k = 0; k < holes; k++) {
                    costs[guess] += rankOfHole[k] * valueOf(guess, k);
                }
                int at = guess;
                while (at > 0 && costs[ranking[at - 1]] > costs[guess]) {
                    ranking[at] = ranking[at - 1];
                    at--;
                }
                ranking[at] = guess;
            }
        }

        int costOf(int guess) {
            return guess >= 0 && guess < costs.length ? costs[guess] : 0;
        }

        int guessAt(int i) {
            return i >= 0 && i < ranking.length ? ranking[i] : NONE;
        }

        // The last TOKEN is the end of the text, which is not shown.
        private int shownEnd() {
            return tokens.count() - 1;
        }

        int shownBytes(int guess) {
            int bytes = 0;
            for (int t = firstShown; t < shownEnd(); t++) {
                bytes += shownLength(guess, t) + (t > firstShown ? 1 : 0);
            }
            return bytes;
        }

        int shownByte(int guess, int i) {
            int rest = i;
            for (int t = firstShown; t < shownEnd(); t++) {
                int length = shownLength(guess, t);
                if (rest < length) {
                    return byteOfToken(guess, t, rest);
                }
                if (rest == length && t + 1 < shownEnd()) {
                    return ' ';
                }
                rest -= length + 1;
                if (rest < 0) {
                    return NONE;
                }
            }
            return NONE;
        }

        private boolean isShownAsNumber(int t) {
            return tokens.kindOf(t) == NUMBER || tokens.kindOf(t) == HOLE_USED;
        }

        private int shownNumber(int guess, int t) {
            int number = tokens.numberOf(t);
            return tokens.kindOf(t) == HOLE_USED ? valueOf(guess, number) : number;
        }

        private int shownLength(int guess, int t) {
            return isShownAsNumber(t) ? digitsOf(shownNumber(guess, t)) : tokens.lengthOf(t);
        }

        private int byteOfToken(int guess, int t, int j) {
            if (!isShownAsNumber(t)) {
                return tokens.byteOf(t, j);
            }
            int rest = shownNumber(guess, t);
            for (int behind = digitsOf(rest) - 1; behind > j; behind--) {
                rest /= 10;
            }
            return '0' + rest % 10;
        }

        private static int digitsOf(int number) {
            int digits = 1;
            int rest = number;
            while (digits < LONGEST_NUMBER && rest > 9) {
                rest /= 10;
                digits++;
            }
            return digits;
        }
    }

    /** A RUN of a GUESS on an INPUT. */
    private static final class Machine {
        private final Program program;
        private final int mask;
        private final int[] slots = new int[SLOTS];
        // How often the loop or while at each depth of { still goes round.
        private final int[] rounds = new int[MOST_BRACES];
        private final int[] stack = new int[STACK];
        private int top = 0;
        private int at = 0;
        private int unroll = 0;
        private int steps = 0;
        private int outcome = STANDS;

        Machine(Program program) {
            this.program = program;
            this.mask = program.mask();
        }

        void run(int guess, int input, int newUnroll) {
            program.fillSlots(slots, guess, input);
            unroll = newUnroll;
            top = 0;
            at = 0;
            steps = 0;
            outcome = RUNNING;
            for (int i = 0; i < MOST_MOVES && outcome == RUNNING; i++) {
                if (at < 0 || at >= program.size) {
                    outcome = STANDS;
                } else {
                    int now = at;
                    at++;
                    perform(program.op[now], program.arg[now], program.target[now]);
                }
            }
        }

        int outcome() {
            return outcome;
        }

        int stepsBegun() {
            return steps;
        }

        int varAt(int k) {
            return k >= 0 && k < MOST_VARS ? slots[FIRST_VAR_SLOT + k] : NONE;
        }

        private void perform(int op, int arg, int target) {
            switch (op) {
                case PUSH: push(arg); break;
                case LOAD: push(arg >= 0 && arg < slots.length ? slots[arg] : 0); break;
                case STORE: store(arg, pop()); break;
                case NEGATE: push(-pop()); break;
                case TURN_BITS: push(~pop()); break;
                case STEP: beginStep(); break;
                case JUMP: at = target; break;
                case JUMP_IF_ZERO: at = pop() == 0 ? target : at; break;
                case LOOP_BEGIN: beginRounds(arg, target); break;
                case LOOP_AGAIN: goRoundAgain(arg, target); break;
                case WHILE_BEGIN: beginRounds(arg, unroll == 0 ? target : unroll); break;
                case WHILE_TEST: testWhile(arg, target, pop()); break;
                case TEST_MUST: outcome = pop() == 0 ? MUST_ZERO : RUNNING; break;
                case TEST_SPEC: outcome = pop() == 0 ? SPEC_ZERO : STANDS; break;
                default: join(op); break;
            }
        }

        // Every number on the stack is one of WIDTH bits.
        private void push(int number) {
            if (top >= 0 && top < stack.length) {
                stack[top] = number & mask;
                top++;
            }
        }

        private int pop() {
            if (top <= 0 || top > stack.length) {
                return 0;
            }
            top--;
            return stack[top];
        }

        private void store(int slot, int number) {
            if (slot >= 0 && slot < slots.length) {
                slots[slot] = number;
            }
        }

        private void beginStep() {
            if (steps >= MOST_STEPS) {
                outcome = TOO_MANY_STEPS;
            } else {
                steps++;
            }
        }

        private void beginRounds(int depth, int times) {
            if (depth >= 0 && depth < rounds.length) {
                rounds[depth] = times;
            }
        }

        private void goRoundAgain(int depth, int round) {
            if (depth < 0 || depth >= rounds.length) {
                return;
            }
            rounds[depth]--;
            if (rounds[depth] > 0) {
                at = round;
            }
        }

        private void testWhile(int depth, int end, int test) {
            if (depth < 0 || depth >= rounds.length || test == 0) {
                at = end;
            } else if (rounds[depth] <= 0) {
                outcome = WHILE_TOO_LONG;
            } else {
                rounds[depth]--;
            }
        }

        // Reads its two values off the stack itself, for the depth of calls to stay small.
        private void join(int op) {
            if (top < 2 || top > stack.length) {
                return;
            }
            int right = stack[top - 1];
            int left = stack[top - 2];
            top--;
            if ((op == '/' || op == '%') && right == 0) {
                outcome = DIVIDED_BY_ZERO;
                return;
            }
            int number = 0;
            switch (op) {
                case '|': number = left | right; break;
                case '^': number = left ^ right; break;
                case '&': number = left & right; break;
                case '=': number = left == right ? 1 : 0; break;
                case '<': number = left < right ? 1 : 0; break;
                case '+': number = left + right; break;
                case '-': number = left - right; break;
                case '*': number = left * right; break;
                case '/': number = right == 0 ? 0 : left / right; break;
                case '%': number = right == 0 ? 0 : left % right; break;
                default: break;
            }
            stack[top - 1] = number & mask;
        }
    }

    /** VERDICTS of all GUESSES on all INPUTS, each worked out when it is first asked for. */
    private static final class Verdicts {
        private final Machine machine;
        private final int inputs;
        // 0: not worked out yet, else one more than the VERDICT.
        private final byte[] row;
        private int unroll = 0;

        Verdicts(Program program, byte[] row) {
            this.machine = new Machine(program);
            this.inputs = program.inputs();
            this.row = row;
        }

        void forget() {
            Arrays.fill(row, (byte) 0);
        }

        int unroll() {
            return unroll;
        }

        void tellUnroll(int v) {
            unroll = v;
            forget();
        }

        Machine ran(int guess, int input) {
            machine.run(guess, input, unroll);
            return machine;
        }

        int verdictOf(int guess, int input) {
            int cell = guess * inputs + input;
            if (cell < 0 || cell >= row.length) {
                return NONE;
            }
            if (row[cell] == 0) {
                machine.run(guess, input, unroll);
                row[cell] = (byte) (machine.outcome() + 1);
            }
            return row[cell] - 1;
        }

        int leastRefuter(int guess) {
            for (int input = 0; input < inputs; input++) {
                if (verdictOf(guess, input) != STANDS) {
                    return input;
                }
            }
            return NONE;
        }

        int greatestRefuter(int guess) {
            for (int input = inputs - 1; input >= 0; input--) {
                if (verdictOf(guess, input) != STANDS) {
                    return input;
                }
            }
            return NONE;
        }

        int inputsWith(int guess, int verdict) {
            int many = 0;
            for (int input = 0; input < inputs; input++) {
                if (verdictOf(guess, input) == verdict) {
                    many++;
                }
            }
            return many;
        }

        boolean areAlike(int guess, int other) {
            for (int input = 0; input < inputs; input++) {
                if (verdictOf(guess, input) != verdictOf(other, input)) {
                    return false;
                }
            }
            return true;
        }
    }

    /** PINS, KEPT, CURRENT, STATE and ORDER of a SKETCH. */
    private static final class Search {
        private final Program program;
        private final Verdicts verdicts;
        private final int[] pins = new int[MOST_HOLES];
        private final int[] kept = new int[MOST_KEPT];
        private final boolean[] left;
        private int keptCount = 0;
        private int order = 0;
        private int state = SEEKING;
        private int current = NONE;

        Search(Program program, Verdicts verdicts) {
            this.program = program;
            this.verdicts = verdicts;
            this.left = new boolean[program.guesses()];
            Arrays.fill(pins, NONE);
        }

        private void beginAnew() {
            state = SEEKING;
            current = NONE;
        }

        boolean isSeeking() {
            return state == SEEKING;
        }

        boolean hasCurrent() {
            return current != NONE;
        }

        int pinOf(int k) {
            return k >= 0 && k < pins.length ? pins[k] : NONE;
        }

        boolean pinTo(int k, int v) {
            if (k < 0 || k >= pins.length || pins[k] == v) {
                return false;
            }
            pins[k] = v;
            beginAnew();
            return true;
        }

        boolean hasKept(int i) {
            return i >= 0 && i < keptCount && i < kept.length;
        }

        int keptAt(int i) {
            return hasKept(i) ? kept[i] : NONE;
        }

        int keepInput(int input) {
            for (int i = 0; i < keptCount && i < kept.length; i++) {
                if (kept[i] == input) {
                    return NONE;
                }
            }
            if (!addKept(input)) {
                return NONE;
            }
            beginAnew();
            return keptCount;
        }

        private boolean addKept(int input) {
            if (keptCount < 0 || keptCount >= kept.length) {
                return false;
            }
            kept[keptCount] = input;
            keptCount++;
            return true;
        }

        int dropKept(int i) {
            int dropped = keptAt(i);
            if (dropped == NONE) {
                return NONE;
            }
            for (int j = i; j + 1 < keptCount && j + 1 < kept.length; j++) {
                kept[j] = kept[j + 1];
            }
            keptCount--;
            beginAnew();
            return dropped;
        }

        int tellUnroll(int v) {
            int was = verdicts.unroll();
            if (v != was) {
                verdicts.tellUnroll(v);
                beginAnew();
            }
            return was;
        }

        int tellOrder(int v) {
            int was = order;
            order = v;
            return was;
        }

        int toGuess() {
            if (state != SEEKING || current != NONE) {
                return NONE;
            }
            for (int i = 0; i < program.guesses(); i++) {
                int guess = program.guessAt(i);
                if (isLeft(guess, ALL_KEPT)) {
                    current = guess;
                    return current;
                }
            }
            state = NO;
            return ANSWER_ENDED;
        }

        int toCheck() {
            if (state != SEEKING || current == NONE) {
                return NONE;
            }
            int input;
            if (order == ORDER_GREATEST) {
                input = verdicts.greatestRefuter(current);
            } else if (order == ORDER_SHARPEST) {
                markLeft();
                input = sharpestOf(current);
            } else {
                input = verdicts.leastRefuter(current);
            }
            if (input == NONE) {
                state = FOUND;
                return ANSWER_ENDED;
            }
            if (!addKept(input)) {
                return ANSWER_FULL;
            }
            current = NONE;
            return input;
        }

        private boolean isOut(int guess) {
            for (int k = 0; k < program.holes && k < pins.length; k++) {
                if (pins[k] != NONE && pins[k] != program.valueOf(guess, k)) {
                    return true;
                }
            }
            return false;
        }

        /** Whether a GUESS were LEFT with those KEPT alone whose bit is in keptBits. */
        private boolean isLeft(int guess, long keptBits) {
            if (isOut(guess)) {
                return false;
            }
            for (int i = 0; i < keptCount && i < kept.length; i++) {
                boolean counts = ((keptBits >>> i) & 1L) != 0L;
                if (counts && verdicts.verdictOf(guess, kept[i]) != STANDS) {
                    return false;
                }
            }
            return true;
        }

        private boolean isOf(int group, int guess) {
            switch (group) {
                case GROUP_LEFT: return isLeft(guess, ALL_KEPT);
                case GROUP_TRUE: return !isOut(guess) && verdicts.leastRefuter(guess) == NONE;
                case GROUP_NOT_OUT: return !isOut(guess);
                default: return false;
            }
        }

        int countOf(int group) {
            int many = 0;
            for (int guess = 0; guess < program.guesses(); guess++) {
                if (isOf(group, guess)) {
                    many++;
                }
            }
            return many;
        }

        int firstOf(int group) {
            for (int i = 0; i < program.guesses(); i++) {
                int guess = program.guessAt(i);
                if (isOf(group, guess)) {
                    return guess;
                }
            }
            return NONE;
        }

        void markLeft() {
            for (int guess = 0; guess < left.length; guess++) {
                left[guess] = isLeft(guess, ALL_KEPT);
            }
        }

        /** Of the GUESSES marked as LEFT. */
        int leftRefutedBy(int input) {
            int many = 0;
            for (int guess = 0; guess < left.length; guess++) {
                if (left[guess] && verdicts.verdictOf(guess, input) != STANDS) {
                    many++;
                }
            }
            return many;
        }

        /** Of all INPUTS, or, if a GUESS is told, of those by which it is REFUTED. */
        int sharpestOf(int guess) {
            int best = NONE;
            int most = 0;
            for (int input = 0; input < program.inputs(); input++) {
                if (guess != NONE && verdicts.verdictOf(guess, input) == STANDS) {
                    continue;
                }
                int many = leftRefutedBy(input);
                if (many > most) {
                    most = many;
                    best = input;
                }
            }
            return best;
        }

        int leftWith(long keptBits) {
            int many = 0;
            for (int guess = 0; guess < left.length; guess++) {
                if (isLeft(guess, keptBits)) {
                    many++;
                }
            }
            return many;
        }

        /** The bits of those KEPT that stay. Fewer KEPT never leave fewer, so counts tell. */
        long coreOfKept() {
            int many = leftWith(ALL_KEPT);
            long stay = (1L << keptCount) - 1L;
            for (int i = keptCount - 1; i >= 0; i--) {
                long without = stay & ~(1L << i);
                if (leftWith(without) == many) {
                    stay = without;
                }
            }
            return stay;
        }

        int keptOf(long keptBits, int wanted) {
            int rest = wanted;
            for (int i = 0; i < keptCount && i < kept.length; i++) {
                if (((keptBits >>> i) & 1L) == 0L) {
                    continue;
                }
                if (rest == 0) {
                    return kept[i];
                }
                rest--;
            }
            return NONE;
        }

        /** Of the GUESSES marked as LEFT. */
        int unlikeLeft() {
            int many = 0;
            for (int guess = 0; guess < left.length; guess++) {
                if (left[guess] && !isLikeEarlier(guess)) {
                    many++;
                }
            }
            return many;
        }

        private boolean isLikeEarlier(int guess) {
            for (int other = 0; other < guess && other < left.length; other++) {
                if (left[other] && verdicts.areAlike(guess, other)) {
                    return true;
                }
            }
            return false;
        }
    }
}
