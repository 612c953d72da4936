/**
 * Terms 2 from PINS on, and promises 13 to 20: what may be done when, what makes STATE SEEKING and
 * what does not, forty KEPT, the three orders.
 */
public final class EdgesOfSearchTest {
    private static final int MIN = Integer.MIN_VALUE;
    private static final int MAX = Integer.MAX_VALUE;
    private static final int[] FAR = {-2, MIN, MAX, MIN + 1, MAX - 1, 1 << 16, 1 << 30};

    public static void main(String[] args) {
        beginning();
        whenToGuess();
        whenToCheck();
        guessTellsNone();
        checkTellsFound();
        checkWithForty();
        goBounds();
        goCounts();
        goAndForty();
        pinBounds();
        pinnedAlready();
        pinsAndOut();
        keepBounds();
        keptInOrder();
        keptByCheck();
        dropBounds();
        setBounds();
        setTellsWhatItWas();
        whatMakesItSeeking();
        whatDoesNot();
        ordersOfCheck();
        stateBounds();
        stateOfTapeWithout();
        Tester.end();
    }

    /**
     * 64 inputs; holes a (3 bits) and b (2 bits, rank 2), 32 guesses. 9 (a 2, b 1) stands for all;
     * those with a 3 stand for the inputs below 40, of these the first as they go is 12.
     */
    static final String TEXT = "sketch 6;in x 6;hole a 3;hole b 2 rank 2;var t;var u;t=x*a+b;u=a;spec t=x+x+1|x<40&a=3;";

    static SketchFiller fresh() { return Tester.told(TEXT); }

    /** SEEKING with CURRENT 0. */
    static SketchFiller guessed() {
        SketchFiller x = fresh();
        x.guess();
        return x;
    }

    /** FOUND: CURRENT 9, one KEPT. */
    static SketchFiller found() {
        SketchFiller x = fresh();
        x.pin(0, 2);
        x.go(100);
        return x;
    }

    /** NO: no CURRENT, two KEPT. */
    static SketchFiller no() {
        SketchFiller x = fresh();
        x.pin(0, 0);
        x.go(100);
        return x;
    }

    /** SEEKING with CURRENT 12, forty KEPT, all that CURRENT stands for. */
    static SketchFiller full() {
        SketchFiller x = fresh();
        for (int i = 0; i < 40; i++) x.keep(i);
        x.guess();
        return x;
    }

    private static void is(String what, SketchFiller x, int state, int current, int kept) {
        Tester.due("STATE: " + what, x.state(0), state);
        Tester.due("CURRENT: " + what, x.state(1), current);
        Tester.due("KEPT: " + what, x.state(2), kept);
    }

    private static void beginning() {
        Tester.by("3: no PINS, nothing KEPT, SEEKING, UNROLL 0, ORDER 0; CURRENT: at first none");
        SketchFiller x = fresh();
        is("fresh", x, 0, -1, 0);
        Tester.due("UNROLL", x.state(3), 0);
        Tester.due("ORDER", x.state(4), 0);
        Tester.due("tape", x.state(5), 0);
        is("guessed", guessed(), 0, 0, 0);
        is("found", found(), 1, 9, 1);
        is("no", no(), 2, -1, 2);
        is("full", full(), 0, 12, 40);
        for (SketchFiller y : new SketchFiller[] {guessed(), found(), no(), full()}) {
            y.set(0, 3);
            y.set(1, 1);
            Tester.due("again", Tester.tell(y, TEXT), 2);
            is("again", y, 0, -1, 0);
            Tester.due("UNROLL again", y.state(3), 0);
            Tester.due("ORDER again", y.state(4), 0);
            Tester.due("pin again", y.hole(0, 2), -1);
            Tester.due("left again", y.many(0), 32);
        }
    }

    private static void whenToGuess() {
        Tester.by("TO GUESS (if SEEKING and without CURRENT); 13: NONE: it can't be (STATE, CURRENT), no SKETCH");
        Tester.due("no SKETCH", new SketchFiller().guess(), -1);
        SketchFiller x = fresh();
        Tester.due("the first LEFT", x.guess(), 0);
        is("it is CURRENT", x, 0, 0, 0);
        Tester.unchanged("with CURRENT", EdgesOfSearchTest::guessed, SketchFiller::guess, -1);
        Tester.unchanged("FOUND", EdgesOfSearchTest::found, SketchFiller::guess, -1);
        Tester.unchanged("NO", EdgesOfSearchTest::no, SketchFiller::guess, -1);
        Tester.unchanged("with CURRENT and forty", EdgesOfSearchTest::full, SketchFiller::guess, -1);
    }

    private static void whenToCheck() {
        Tester.by("TO CHECK (if SEEKING and with CURRENT); 14: NONE: it can't be (STATE, no CURRENT), no SKETCH");
        Tester.due("no SKETCH", new SketchFiller().check(), -1);
        Tester.unchanged("without CURRENT", EdgesOfSearchTest::fresh, SketchFiller::check, -1);
        Tester.unchanged("FOUND", EdgesOfSearchTest::found, SketchFiller::check, -1);
        Tester.unchanged("NO", EdgesOfSearchTest::no, SketchFiller::check, -1);
        SketchFiller x = guessed();
        Tester.due("with CURRENT", x.check(), 0);
        is("it is KEPT, CURRENT is none", x, 0, -1, 1);
        Tester.due("the one KEPT", x.state(10), 0);
        Tester.unchanged("behind a check", () -> {
            SketchFiller y = guessed();
            y.check();
            return y;
        }, SketchFiller::check, -1);
    }

    private static void guessTellsNone() {
        Tester.by("is none LEFT, STATE is NO; 13: -2: none is LEFT (NO)");
        // One is LEFT.
        SketchFiller x = fresh();
        x.pin(0, 2);
        x.keep(0);
        Tester.due("one is LEFT", x.many(0), 1);
        Tester.due("it is told", x.guess(), 9);
        is("SEEKING", x, 0, 9, 1);
        // None is.
        SketchFiller y = fresh();
        y.pin(0, 0);
        y.keep(0);
        y.keep(1);
        Tester.due("none is LEFT", y.many(0), 0);
        Tester.due("-2", y.guess(), -2);
        is("NO", y, 2, -1, 2);
        Tester.due("then it can't be", y.guess(), -1);
        SketchFiller last = Tester.told("sketch 6;in x 1;hole h 6;hole g 1;spec h=63&g;");
        last.keep(1);
        Tester.due("the last as they go", last.guess(), 127);
        SketchFiller none = Tester.told("sketch 6;hole h 6;hole g 1;spec 0;");
        none.keep(0);
        Tester.due("none of 128", none.guess(), -2);
    }

    private static void checkTellsFound() {
        Tester.by("is there none, STATE is FOUND (CURRENT stays); 14: -2: FOUND");
        SketchFiller x = fresh();
        x.pin(0, 2);
        x.pin(1, 1);
        x.guess();
        Tester.due("-2", x.check(), -2);
        is("FOUND", x, 1, 9, 0);
        Tester.due("then it can't be", x.check(), -1);
        // REFUTED by the last INPUT alone: not FOUND.
        for (int order = 0; order < 3; order++) {
            SketchFiller y = Tester.told("sketch 6;in x 6;in y 1;hole h 1;spec h|x<63|1-y;");
            y.set(1, order);
            y.guess();
            Tester.due("by the last alone, ORDER " + order, y.check(), 127);
            SketchFiller z = Tester.told("sketch 6;in x 6;in y 1;hole h 1;spec h|x|y;");
            z.set(1, order);
            z.guess();
            Tester.due("by the first alone, ORDER " + order, z.check(), 0);
            z.guess();
            Tester.due("by none, ORDER " + order, z.check(), -2);
        }
    }

    private static void checkWithForty() {
        Tester.by("14: -3: CURRENT is REFUTED, but forty are KEPT (nothing is done)");
        for (int order = 0; order < 3; order++) {
            int told = order;
            Tester.unchanged("forty, ORDER " + order, () -> {
                SketchFiller x = full();
                x.set(1, told);
                return x;
            }, SketchFiller::check, -3);
        }
        // 39 are KEPT: one more comes.
        SketchFiller x = fresh();
        for (int i = 0; i < 39; i++) x.keep(i);
        x.guess();
        is("39", x, 0, 12, 39);
        Tester.due("the fortieth", x.check(), 40);
        is("forty", x, 0, -1, 40);
        Tester.due("it is the last", x.state(49), 40);
        Tester.due("none behind it", x.state(50), -1);
        // Forty are KEPT, but CURRENT is not REFUTED.
        SketchFiller y = full();
        y.pin(0, 2);
        Tester.due("9 is LEFT", y.guess(), 9);
        Tester.due("FOUND with forty", y.check(), -2);
        is("FOUND with forty", y, 1, 9, 40);
        // Forty are KEPT, and one of them goes.
        SketchFiller z = full();
        Tester.due("stuck", z.check(), -3);
        Tester.due("stuck again", z.check(), -3);
        Tester.due("one goes", z.drop(39), 39);
        Tester.due("12 again", z.guess(), 12);
        Tester.due("then it can be KEPT", z.check(), 40);
        // Forty are KEPT and none is LEFT: NO.
        SketchFiller none = full();
        none.pin(0, 0);
        Tester.due("NO with forty", none.guess(), -2);
        is("NO with forty", none, 2, -1, 40);
    }

    private static void goBounds() {
        Tester.by("15: n (1 to 100); NONE: others, no SKETCH");
        Tester.due("no SKETCH, 1", new SketchFiller().go(1), -1);
        Tester.due("no SKETCH, 100", new SketchFiller().go(100), -1);
        for (int n : new int[] {0, 101, -1, 102, -2, MIN, MAX}) {
            Tester.due("no SKETCH, " + n, new SketchFiller().go(n), -1);
            Tester.unchanged("fresh, " + n, EdgesOfSearchTest::fresh, x -> x.go(n), -1);
            Tester.unchanged("guessed, " + n, EdgesOfSearchTest::guessed, x -> x.go(n), -1);
            Tester.unchanged("found, " + n, EdgesOfSearchTest::found, x -> x.go(n), -1);
            Tester.unchanged("no, " + n, EdgesOfSearchTest::no, x -> x.go(n), -1);
        }
        Tester.due("1", fresh().go(1), 1);
        Tester.due("100", fresh().go(100) > 1, true);
        Tester.unchanged("found, 1", EdgesOfSearchTest::found, x -> x.go(1), 0);
        Tester.unchanged("found, 100", EdgesOfSearchTest::found, x -> x.go(100), 0);
        Tester.unchanged("no, 1", EdgesOfSearchTest::no, x -> x.go(1), 0);
        Tester.unchanged("no, 100", EdgesOfSearchTest::no, x -> x.go(100), 0);
    }

    private static void goCounts() {
        Tester.by("15: Up to n times TO GUESS if there is no CURRENT, else TO CHECK, as long as it is SEEKING: how many times");
        // Guess 8, check 0, guess 9, check: FOUND.
        int[][] states = {{0, 8, 0}, {0, -1, 1}, {0, 9, 1}, {1, 9, 1}, {1, 9, 1}};
        for (int n = 1; n <= 5; n++) {
            SketchFiller x = fresh();
            x.pin(0, 2);
            Tester.due("go " + n, x.go(n), Math.min(n, 4));
            is("go " + n, x, states[n - 1][0], states[n - 1][1], states[n - 1][2]);
        }
        // Guess 0, check 0, guess 1, check 1, guess: NO.
        int[][] to = {{0, 0, 0}, {0, -1, 1}, {0, 1, 1}, {0, -1, 2}, {2, -1, 2}, {2, -1, 2}};
        for (int n = 1; n <= 6; n++) {
            SketchFiller x = fresh();
            x.pin(0, 0);
            Tester.due("go to NO " + n, x.go(n), Math.min(n, 5));
            is("go to NO " + n, x, to[n - 1][0], to[n - 1][1], to[n - 1][2]);
        }
        // With CURRENT the first is a check.
        SketchFiller x = guessed();
        Tester.due("check first", x.go(1), 1);
        is("check first", x, 0, -1, 1);
    }

    private static void goAndForty() {
        Tester.by("15: and check() does not tell -3");
        Tester.unchanged("at -3, 1", EdgesOfSearchTest::full, x -> x.go(1), 0);
        Tester.unchanged("at -3, 100", EdgesOfSearchTest::full, x -> x.go(100), 0);
        // Each guess is refuted by its own input: guess and check forty times, and one more guess.
        SketchFiller x = Tester.told("sketch 6;in x 6;hole h 6;spec (x=h)=0;");
        Tester.due("79", x.go(79), 79);
        is("79", x, 0, 39, 39);
        Tester.due("the fortieth", x.go(1), 1);
        is("80", x, 0, -1, 40);
        Tester.due("guess, then -3", x.go(100), 1);
        is("81", x, 0, 40, 40);
        Tester.due("no more", x.go(100), 0);
        Tester.due("all at once", Tester.told("sketch 6;in x 6;hole h 6;spec (x=h)=0;").go(100), 81);
        // Of forty, CURRENT is not REFUTED: it goes on to FOUND.
        SketchFiller y = full();
        y.pin(0, 2);
        Tester.due("to FOUND with forty", y.go(100), 2);
        is("FOUND with forty", y, 1, 9, 40);
    }

    private static void pinBounds() {
        Tester.by("16: A hole is PINNED to a value (NONE: to none): true; false: others");
        Tester.due("no SKETCH", new SketchFiller().pin(0, 0), false);
        Tester.due("no SKETCH, to none", new SketchFiller().pin(0, -1), false);
        SketchFiller x = fresh();
        Tester.due("the least", x.pin(0, 0), true);
        Tester.due("the greatest of 3 bits", x.pin(0, 7), true);
        Tester.due("it is so", x.hole(0, 2), 7);
        Tester.due("the greatest of 2 bits", x.pin(1, 3), true);
        Tester.due("it is so, too", x.hole(1, 2), 3);
        Tester.due("to none", x.pin(0, -1), true);
        Tester.due("none", x.hole(0, 2), -1);
        Tester.due("the other stays", x.hole(1, 2), 3);
        int[][] none = {{0, 8}, {1, 4}, {0, -2}, {1, -2}, {2, 0}, {-1, 0}, {2, -1}, {-1, -1}, {0, MIN}, {0, MAX}, {MIN, 0}, {MAX, 0}, {5, 0}, {4, 0}};
        for (int[] p : none) {
            String what = "pin " + p[0] + " to " + p[1];
            Tester.unchanged(what + ", guessed", EdgesOfSearchTest::guessed, y -> y.pin(p[0], p[1]) ? 1 : 0, 0);
            Tester.unchanged(what + ", found", EdgesOfSearchTest::found, y -> y.pin(p[0], p[1]) ? 1 : 0, 0);
            Tester.unchanged(what + ", no", EdgesOfSearchTest::no, y -> y.pin(p[0], p[1]) ? 1 : 0, 0);
        }
        SketchFiller five = Tester.told("sketch 6;hole a 1;hole b 1;hole c 1;hole d 1;hole e 3;spec 1;");
        Tester.due("the fifth", five.pin(4, 7), true);
        Tester.due("too much for the fifth", five.pin(4, 8), false);
        Tester.due("too much for the fourth", five.pin(3, 2), false);
        Tester.due("no sixth", five.pin(5, 0), false);
        SketchFiller six = Tester.told("sketch 6;hole a 6;spec 1;");
        Tester.due("63", six.pin(0, 63), true);
        Tester.due("64", six.pin(0, 64), false);
    }

    private static void pinnedAlready() {
        Tester.by("16: false: it is so already");
        Tester.unchanged("to none", EdgesOfSearchTest::guessed, x -> x.pin(0, -1) ? 1 : 0, 0);
        Tester.unchanged("to none, the other", EdgesOfSearchTest::found, x -> x.pin(1, -1) ? 1 : 0, 0);
        Tester.unchanged("to the value, found", EdgesOfSearchTest::found, x -> x.pin(0, 2) ? 1 : 0, 0);
        Tester.unchanged("to the value, no", EdgesOfSearchTest::no, x -> x.pin(0, 0) ? 1 : 0, 0);
        SketchFiller x = fresh();
        Tester.due("to 0", x.pin(0, 0), true);
        Tester.due("to 0 already", x.pin(0, 0), false);
        Tester.due("to another", x.pin(0, 1), true);
        Tester.due("back to 0", x.pin(0, 0), true);
        Tester.due("to none", x.pin(0, -1), true);
        Tester.due("to none already", x.pin(0, -1), false);
        Tester.due("to 0 again", x.pin(0, 0), true);
    }

    private static void pinsAndOut() {
        Tester.by("PINS: GUESSES with another one are OUT");
        SketchFiller x = Tester.told("sketch 3;hole a 1;hole b 3;hole c 2;spec 1;");
        Tester.due("none is OUT", x.many(2), 64);
        x.pin(1, 7);
        Tester.due("with b 7", x.many(2), 8);
        Tester.due("the first with b 7", x.many(5), 28);
        x.pin(2, 0);
        Tester.due("and c 0", x.many(2), 2);
        x.pin(0, 1);
        Tester.due("and a 1", x.many(2), 1);
        Tester.due("that one", x.many(5), 60);
        Tester.due("it is the first LEFT", x.guess(), 60);
        x.pin(1, -1);
        Tester.due("b is free", x.many(2), 8);
        Tester.due("the first then", x.guess(), 32);
    }

    private static void keepBounds() {
        Tester.by("17: An INPUT is KEPT: how many are; NONE: none such, it is, forty are");
        Tester.due("no SKETCH", new SketchFiller().keep(0), -1);
        SketchFiller x = fresh();
        Tester.due("the last", x.keep(63), 1);
        Tester.due("the first", x.keep(0), 2);
        for (int input : new int[] {64, -1, 65, 127, 128, -2, MIN, MAX}) {
            Tester.unchanged("keep " + input + ", guessed", EdgesOfSearchTest::guessed, y -> y.keep(input), -1);
            Tester.unchanged("keep " + input + ", found", EdgesOfSearchTest::found, y -> y.keep(input), -1);
            Tester.unchanged("keep " + input + ", no", EdgesOfSearchTest::no, y -> y.keep(input), -1);
        }
        Tester.unchanged("it is, found", EdgesOfSearchTest::found, y -> y.keep(0), -1);
        Tester.unchanged("it is, no, the first", EdgesOfSearchTest::no, y -> y.keep(0), -1);
        Tester.unchanged("it is, no, the last", EdgesOfSearchTest::no, y -> y.keep(1), -1);
        SketchFiller y = fresh();
        for (int i = 0; i < 40; i++) Tester.due("keep " + i, y.keep(63 - i), i + 1);
        Tester.due("the fortieth", y.state(49), 24);
        Tester.unchanged("forty are", EdgesOfSearchTest::full, z -> z.keep(40), -1);
        Tester.unchanged("forty are, the last INPUT", EdgesOfSearchTest::full, z -> z.keep(63), -1);
        Tester.unchanged("forty are, and it is", EdgesOfSearchTest::full, z -> z.keep(39), -1);
        Tester.due("one goes", y.drop(39), 24);
        Tester.due("one comes", y.keep(0), 40);
        Tester.due("none more", y.keep(24), -1);
    }

    private static void keptInOrder() {
        Tester.by("KEPT: in the order in which they came, each once; 20: 10 and on: the INPUTS KEPT, in order");
        SketchFiller x = fresh();
        int[] came = {5, 63, 0, 17};
        for (int i = 0; i < 4; i++) {
            Tester.due("none at " + i, x.state(10 + i), -1);
            x.keep(came[i]);
        }
        for (int i = 0; i < 4; i++) Tester.due("at " + i, x.state(10 + i), came[i]);
        Tester.due("none behind", x.state(14), -1);
        Tester.due("5 again", x.keep(5), -1);
        Tester.due("the first goes", x.drop(0), 5);
        Tester.due("5 comes behind", x.keep(5), 4);
        int[] then = {63, 0, 17, 5, -1};
        for (int i = 0; i < 5; i++) Tester.due("then at " + i, x.state(10 + i), then[i]);
        Tester.due("one of the middle goes", x.drop(1), 0);
        int[] last = {63, 17, 5, -1};
        for (int i = 0; i < 4; i++) Tester.due("last at " + i, x.state(10 + i), last[i]);
    }

    private static void keptByCheck() {
        Tester.by("TO CHECK: the one that is first by ORDER is KEPT");
        SketchFiller x = fresh();
        x.keep(32);
        Tester.due("stands for 32", x.guess(), 1);
        Tester.due("the least that REFUTES it", x.check(), 1);
        Tester.due("the first", x.state(10), 32);
        Tester.due("the second", x.state(11), 1);
        Tester.due("no third", x.state(12), -1);
        Tester.due("it is KEPT", x.keep(1), -1);
        Tester.due("it may go", x.drop(1), 1);
    }

    private static void dropBounds() {
        Tester.by("18: The i-th KEPT one is KEPT no more: which it was; NONE: none such");
        Tester.due("no SKETCH", new SketchFiller().drop(0), -1);
        Tester.unchanged("none is KEPT", EdgesOfSearchTest::guessed, x -> x.drop(0), -1);
        for (int i : new int[] {-1, MIN, MAX, -2, 40, 64}) {
            Tester.unchanged("guessed, " + i, EdgesOfSearchTest::guessed, x -> x.drop(i), -1);
            Tester.unchanged("found, " + i, EdgesOfSearchTest::found, x -> x.drop(i), -1);
            Tester.unchanged("no, " + i, EdgesOfSearchTest::no, x -> x.drop(i), -1);
            Tester.unchanged("full, " + i, EdgesOfSearchTest::full, x -> x.drop(i), -1);
        }
        Tester.unchanged("found, 1", EdgesOfSearchTest::found, x -> x.drop(1), -1);
        Tester.unchanged("no, 2", EdgesOfSearchTest::no, x -> x.drop(2), -1);
        Tester.due("the last of one", found().drop(0), 0);
        Tester.due("the last of two", no().drop(1), 1);
        Tester.due("the first of forty", full().drop(0), 0);
        SketchFiller x = full();
        Tester.due("the last of forty", x.drop(39), 39);
        is("39 then", x, 0, -1, 39);
        Tester.due("none there now", x.drop(39), -1);
        for (int i = 38; i >= 0; i--) Tester.due("all go, " + i, x.drop(0), 38 - i);
        is("none", x, 0, -1, 0);
        Tester.due("none to go", x.drop(0), -1);
    }

    private static void setBounds() {
        Tester.by("19: UNROLL (what 0), ORDER (what 1) is told; NONE: others, no SKETCH; UNROLL 0 to 9, ORDER 0 to 2");
        for (int what = -1; what < 3; what++) Tester.due("no SKETCH, " + what, new SketchFiller().set(what, 0), -1);
        int[][] none = {{0, 10}, {0, -1}, {1, 3}, {1, -1}, {2, 0}, {-1, 0}, {2, 1}, {-1, 1}, {0, MIN}, {0, MAX}, {1, MIN}, {1, MAX}, {MIN, 0}, {MAX, 0}, {1, 9}, {3, 0}};
        for (int[] s : none) {
            String what = "set " + s[0] + " to " + s[1];
            Tester.unchanged(what + ", fresh", EdgesOfSearchTest::fresh, y -> y.set(s[0], s[1]), -1);
            Tester.unchanged(what + ", guessed", EdgesOfSearchTest::guessed, y -> y.set(s[0], s[1]), -1);
            Tester.unchanged(what + ", found", EdgesOfSearchTest::found, y -> y.set(s[0], s[1]), -1);
            Tester.unchanged(what + ", no", EdgesOfSearchTest::no, y -> y.set(s[0], s[1]), -1);
            Tester.unchanged(what + ", used", Tester::used, y -> y.set(s[0], s[1]), -1);
        }
    }

    private static void setTellsWhatItWas() {
        Tester.by("19: what it was");
        SketchFiller x = fresh();
        for (int u = 0; u <= 9; u++) {
            Tester.due("UNROLL " + u, x.set(0, u), Math.max(0, u - 1));
            Tester.due("it is UNROLL " + u, x.state(3), u);
        }
        Tester.due("back to 0", x.set(0, 0), 9);
        for (int o = 0; o <= 2; o++) {
            Tester.due("ORDER " + o, x.set(1, o), Math.max(0, o - 1));
            Tester.due("it is ORDER " + o, x.state(4), o);
        }
        Tester.due("ORDER as it is", x.set(1, 2), 2);
        Tester.due("back to ORDER 0", x.set(1, 0), 2);
        Tester.due("UNROLL is its own", x.state(3), 0);
    }

    private static void whatMakesItSeeking() {
        Tester.by("What pin(), keep(), drop(), set() of UNROLL change makes STATE SEEKING and CURRENT none");
        Tester.Maker[] makers = {EdgesOfSearchTest::guessed, EdgesOfSearchTest::found, EdgesOfSearchTest::no};
        String[] names = {"guessed", "found", "no"};
        for (int m = 0; m < makers.length; m++) {
            SketchFiller x = makers[m].make();
            int kept = x.state(2);
            Tester.due("pin, " + names[m], x.pin(1, 3), true);
            is("pin, " + names[m], x, 0, -1, kept);
            x = makers[m].make();
            Tester.due("pin to none, " + names[m], x.pin(0, -1), m != 0);
            is("pin to none, " + names[m], x, 0, m == 0 ? 0 : -1, kept);
            x = makers[m].make();
            Tester.due("keep, " + names[m], x.keep(63), kept + 1);
            is("keep, " + names[m], x, 0, -1, kept + 1);
            x = makers[m].make();
            Tester.due("drop, " + names[m], x.drop(kept - 1) >= 0, kept > 0);
            if (kept > 0) is("drop, " + names[m], x, 0, -1, kept - 1);
            for (int u = 1; u <= 9; u++) {
                x = makers[m].make();
                Tester.due("UNROLL, " + names[m], x.set(0, u), 0);
                is("UNROLL " + u + ", " + names[m], x, 0, -1, kept);
            }
        }
        // With CURRENT, and something KEPT to go.
        SketchFiller y = full();
        y.drop(0);
        is("drop, full", y, 0, -1, 39);
        // UNROLL back to 0 is a change, too; pins stay.
        SketchFiller z = found();
        z.set(0, 9);
        z.go(100);
        is("found again", z, 1, 9, 1);
        z.set(0, 0);
        is("back to 0", z, 0, -1, 1);
        Tester.due("the pin stays", z.hole(0, 2), 2);
    }

    private static void whatDoesNot() {
        Tester.by("(not what they refuse, nor UNROLL told as it is); ORDER: STATE, CURRENT stay");
        Tester.Maker[] makers = {EdgesOfSearchTest::fresh, EdgesOfSearchTest::guessed, EdgesOfSearchTest::found, EdgesOfSearchTest::no,
            EdgesOfSearchTest::full};
        for (Tester.Maker maker : makers) {
            Tester.unchanged("UNROLL as it is", maker, x -> x.set(0, 0), 0);
            Tester.unchanged("ORDER as it is", maker, x -> x.set(1, 0), 0);
            for (int order = 1; order < 3; order++) {
                SketchFiller x = maker.make();
                int state = x.state(0);
                int current = x.state(1);
                int kept = x.state(2);
                Tester.due("ORDER " + order, x.set(1, order), 0);
                is("ORDER " + order, x, state, current, kept);
            }
            SketchFiller y = maker.make();
            int state = y.state(0);
            int current = y.state(1);
            y.feed(0, 0, 0, 0, 0);
            Tester.due("feed: STATE", y.state(0), state);
            Tester.due("feed: CURRENT", y.state(1), current);
        }
        Tester.unchanged("UNROLL as it is, not 0", Tester::used, x -> x.set(0, 4), 4);
        Tester.unchanged("ORDER as it is, not 0", Tester::used, x -> x.set(1, 2), 2);
    }

    private static void ordersOfCheck() {
        Tester.by("ORDER: 0 the least number, 1 the greatest number, 2 the one that REFUTES most GUESSES LEFT, of several the least");
        // 0 is REFUTED by 2 to 5, 1 by 4, 5 and 7, 2 and 3 by 7, which does not REFUTE 0.
        String text = "sketch 3;in x 3;hole h 2;if h=0{must x<2|5<x;}if h=1{must x<4|x=6;}if 1<h{must x<7;}spec 1;";
        int[] want = {2, 5, 4};
        for (int order = 0; order < 3; order++) {
            SketchFiller x = Tester.told(text);
            x.set(1, order);
            Tester.due("guess by " + order, x.guess(), 0);
            Tester.due("check by " + order, x.check(), want[order]);
        }
        Tester.due("of all INPUTS it is another", Tester.told(text).sharpest(0), 7);
        // The second CURRENT has refuters of its own.
        for (int order = 0; order < 3; order++) {
            SketchFiller x = Tester.told(text);
            x.keep(2);
            x.set(1, order);
            Tester.due("second guess by " + order, x.guess(), 1);
            Tester.due("its check by " + order, x.check(), new int[] {4, 7, 7}[order]);
        }
        // Told between guess and check, it counts.
        for (int order = 0; order < 3; order++) {
            SketchFiller x = Tester.told(text);
            x.set(1, (order + 1) % 3);
            x.guess();
            x.set(1, order);
            Tester.due("told late, " + order, x.check(), want[order]);
        }
        // Those OUT do not count, nor those that are not LEFT.
        SketchFiller x = Tester.told(text);
        x.pin(0, 0);
        x.set(1, 2);
        x.guess();
        Tester.due("those OUT do not count", x.check(), 2);
        SketchFiller y = Tester.told(text);
        y.keep(7);
        y.set(1, 2);
        y.guess();
        Tester.due("those not LEFT do not count", y.check(), 2);
    }

    private static void stateBounds() {
        Tester.by("20: 0 to 5, 10 and on; NONE: others, none such, no SKETCH");
        SketchFiller x = full();
        int[] want = {0, 12, 40, 0, 0, 0, -1, -1, -1, -1};
        for (int what = 0; what < 10; what++) Tester.due("state " + what, x.state(what), want[what]);
        for (int i = 0; i < 40; i++) Tester.due("state " + (10 + i), x.state(10 + i), i);
        Tester.due("state 50", x.state(50), -1);
        Tester.due("state -1", x.state(-1), -1);
        for (int far : FAR) Tester.due("state " + far, x.state(far), -1);
        Tester.due("10 of none KEPT", fresh().state(10), -1);
        Tester.due("11 of one KEPT", found().state(11), -1);
        for (int what : new int[] {-1, 0, 1, 2, 3, 4, 6, 9, 10, 11, 49, 50, MIN, MAX})
            Tester.due("no SKETCH, " + what, new SketchFiller().state(what), -1);
    }

    private static void stateOfTapeWithout() {
        Tester.by("20: 5: bytes on THE TAPE (5: also without)");
        SketchFiller x = new SketchFiller();
        for (int i = 0; i <= 40; i++) {
            Tester.due("bytes behind " + i, x.state(5), 20 * i);
            x.feed(0, 0, 0, 0, 0);
        }
        Tester.due("behind one refused", x.state(5), 800);
        SketchFiller y = fresh();
        y.feed(0, 0, 0, 0, 0);
        Tester.due("with a SKETCH", y.state(5), 20);
        y.sketch(20);
        Tester.due("behind a fault", y.state(5), 0);
    }
}
