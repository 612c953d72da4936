/**
 * Promises 21 to 30: what is asked of the guesses left and true, and what a guess looks like; and
 * that whatever is only asked for, taken or refused, changes nothing in any state.
 */
public final class EdgesOfAnswersTest {
    private static final int MIN = Integer.MIN_VALUE;
    private static final int MAX = Integer.MAX_VALUE;
    private static final int[] FAR = {-2, MIN, MAX, MIN + 1, MAX - 1, 1 << 16, 1 << 30};
    /** One hole of six bits, one input of six: the guess h is refuted by the input h alone. */
    private static final String ONE_EACH = "sketch 6;in x 6;hole h 6;spec (x=h)=0;";
    private static final String ALL_UNLIKE = "sketch 6;in x 6;in y 1;hole h 6;hole g 1;spec (x=h&y=g)=0;";

    public static void main(String[] args) {
        manyBounds();
        manyOfNone();
        byBounds();
        refutesBounds();
        sharpestBounds();
        sharpestOfSeveral();
        freeBounds();
        freePinsOrNot();
        neededBounds();
        neededOfForty();
        coreBounds();
        coreLatestFirst();
        kindsFromNoneToAll();
        alikeBounds();
        shownBounds();
        shownNumbers();
        shownHoles();
        shownLongest();
        askedInEachState();
        askedWithoutSketch();
        the512thCall();
        Tester.end();
    }

    private static SketchFiller keptFrom(String text, int from, int to) {
        SketchFiller x = Tester.told(text);
        for (int i = from; i < to; i++) x.keep(i);
        return x;
    }

    // ---- 21

    private static void manyBounds() {
        Tester.by("21: what 0 to 5; NONE: others, no SKETCH");
        SketchFiller x = EdgesOfSearchTest.fresh();
        int[] want = {32, 1, 32, 0, 9, 0};
        for (int what = 0; what < 6; what++) Tester.due("many " + what, x.many(what), want[what]);
        Tester.due("many 6", x.many(6), -1);
        Tester.due("many -1", x.many(-1), -1);
        for (int far : FAR) Tester.due("many " + far, x.many(far), -1);
        for (int what = -1; what < 7; what++) Tester.due("no SKETCH, " + what, new SketchFiller().many(what), -1);
        SketchFiller all = Tester.told("sketch 6;in x 6;in y 1;hole h 6;hole g 1;spec 1;");
        int[] most = {128, 128, 128, 0, 0, 0};
        for (int what = 0; what < 6; what++) Tester.due("all stand, many " + what, all.many(what), most[what]);
    }

    private static void manyOfNone() {
        Tester.by("21: the first of these as they go (3, 4, 5; NONE: none)");
        SketchFiller none = Tester.told("sketch 6;in x 6;hole h 6;hole g 1;spec 0;");
        Tester.due("none TRUE", none.many(1), 0);
        Tester.due("no first TRUE", none.many(4), -1);
        Tester.due("all LEFT", none.many(0), 128);
        Tester.due("the first LEFT", none.many(3), 0);
        none.keep(63);
        Tester.due("none LEFT", none.many(0), 0);
        Tester.due("no first LEFT", none.many(3), -1);
        Tester.due("all not OUT", none.many(2), 128);
        Tester.due("the first not OUT", none.many(5), 0);
        // The one that there is comes last as they go.
        SketchFiller last = Tester.told("sketch 6;in x 1;hole h 6;hole g 1;spec h=63&g;");
        last.keep(0);
        Tester.due("one LEFT", last.many(0), 1);
        Tester.due("it is the last", last.many(3), 127);
        Tester.due("one TRUE", last.many(1), 1);
        Tester.due("it is the last, too", last.many(4), 127);
        last.pin(0, 63);
        last.pin(1, 1);
        Tester.due("one not OUT", last.many(2), 1);
        Tester.due("it is the last as well", last.many(5), 127);
        last.pin(1, 0);
        Tester.due("TRUE ones that are OUT do not count", last.many(1), 0);
        Tester.due("nor LEFT ones", last.many(0), 0);
        Tester.due("no first TRUE that is OUT", last.many(4), -1);
        // By COST, not by number: b costs less than a.
        SketchFiller cost = Tester.told("sketch 3;in x 1;hole a 1 rank 0;hole b 2 rank 9;spec a|b;");
        Tester.due("TRUE by COST", cost.many(4), 4);
        cost.keep(0);
        Tester.due("LEFT by COST", cost.many(3), 4);
        cost.pin(1, 3);
        Tester.due("of one COST by number", cost.many(5), 3);
    }

    // ---- 22 to 24

    private static void byBounds() {
        Tester.by("22: VERDICT (1 to 5; 0: for how many it STANDS); NONE: others");
        SketchFiller x = Tester.told("sketch 4;in i 4;hole h 2;if i=2{must h;}if i=3{must 1/h;}if i=4{while 1-h most 1{}}"
                + "if i=5{loop 9{loop 9{loop 1{}}}}spec (i=1)=0|h;");
        int[] refuted = {11, 1, 1, 1, 1, 1};
        for (int v = 0; v < 6; v++) Tester.due("by " + v, x.by(0, v), refuted[v]);
        Tester.due("by 6", x.by(0, 6), -1);
        Tester.due("by -1", x.by(0, -1), -1);
        for (int far : FAR) {
            Tester.due("by " + far, x.by(0, far), -1);
            Tester.due("guess " + far, x.by(far, 0), -1);
        }
        Tester.due("the last GUESS", x.by(3, 5), 1);
        Tester.due("the first that is none", x.by(4, 5), -1);
        Tester.due("-1", x.by(-1, 5), -1);
        for (int v = 0; v < 6; v++) Tester.due("no SKETCH, " + v, new SketchFiller().by(0, v), -1);
        SketchFiller all = Tester.told("sketch 6;in x 6;in y 1;hole h 1;spec h;");
        Tester.due("all 128", all.by(1, 0), 128);
        Tester.due("none", all.by(1, 1), 0);
        Tester.due("all 128 REFUTED", all.by(0, 1), 128);
        Tester.due("for none", all.by(0, 0), 0);
    }

    private static void refutesBounds() {
        Tester.by("23: How many GUESSES LEFT an INPUT REFUTES; NONE: none such");
        SketchFiller x = Tester.told("sketch 3;in x 3;hole h 3;spec h<x|x=0|h=7;");
        int[] want = {0, 6, 5, 4, 3, 2, 1, 0};
        for (int i = 0; i < 8; i++) Tester.due("refutes " + i, x.refutes(i), want[i]);
        Tester.due("refutes 8", x.refutes(8), -1);
        Tester.due("refutes -1", x.refutes(-1), -1);
        for (int far : FAR) Tester.due("refutes " + far, x.refutes(far), -1);
        Tester.due("no SKETCH", new SketchFiller().refutes(0), -1);
        x.keep(4);
        Tester.due("a KEPT one REFUTES none", x.refutes(4), 0);
        Tester.due("of those LEFT", x.refutes(1), 3);
        x.pin(0, 3);
        Tester.due("of those not OUT", x.refutes(1), 1);
        x.pin(0, 6);
        Tester.due("none LEFT", x.refutes(1), 0);
        Tester.due("all 128", Tester.told("sketch 6;in x 1;hole h 6;hole g 1;spec x;").refutes(0), 128);
    }

    private static void sharpestBounds() {
        Tester.by("24: what 0 (NONE, if none REFUTES any); how many, 1 (0 then); NONE: others, no SKETCH");
        SketchFiller x = Tester.told("sketch 3;in x 3;hole h 3;spec h<x|x=0|h=7;");
        Tester.due("which", x.sharpest(0), 1);
        Tester.due("how many", x.sharpest(1), 6);
        Tester.due("2", x.sharpest(2), -1);
        Tester.due("-1", x.sharpest(-1), -1);
        for (int far : FAR) Tester.due("sharpest " + far, x.sharpest(far), -1);
        for (int what = -1; what < 3; what++) Tester.due("no SKETCH, " + what, new SketchFiller().sharpest(what), -1);
        x.keep(1);
        Tester.due("none REFUTES any", x.sharpest(0), -1);
        Tester.due("0 then", x.sharpest(1), 0);
        SketchFiller all = Tester.told("sketch 3;in x 3;hole h 3;spec 1;");
        Tester.due("all stand", all.sharpest(0), -1);
        Tester.due("0, all stand", all.sharpest(1), 0);
        SketchFiller none = Tester.told("sketch 3;in x 3;hole h 3;spec 0;");
        none.keep(7);
        Tester.due("none LEFT", none.sharpest(0), -1);
        Tester.due("0, none LEFT", none.sharpest(1), 0);
    }

    private static void sharpestOfSeveral() {
        Tester.by("24: (of several the least)");
        Tester.due("all alike", Tester.told("sketch 6;in x 6;in y 1;hole h 6;spec 0;").sharpest(0), 0);
        Tester.due("the last alone", Tester.told("sketch 6;in x 6;in y 1;hole h 6;spec x<63|1-y;").sharpest(0), 127);
        Tester.due("1 REFUTED by the last", Tester.told("sketch 6;in x 6;in y 1;hole h 6;spec x<63|1-y|h;").sharpest(1), 1);
        SketchFiller x = keptFrom(ONE_EACH, 0, 5);
        Tester.due("the least of the others", x.sharpest(0), 5);
        Tester.due("one each", x.sharpest(1), 1);
    }

    // ---- 25

    private static void freeBounds() {
        Tester.by("25: How many values of the k-th hole STAND for all INPUTS, all other holes as in a GUESS; NONE: others");
        SketchFiller x = Tester.told("sketch 6;in x 1;hole a 6;hole b 1;spec b|a<x+7&0<a;");
        Tester.due("all 64", x.free(1, 0), 64);
        Tester.due("6 of 64", x.free(0, 0), 6);
        Tester.due("both", x.free(2, 1), 2);
        Tester.due("one", x.free(0, 1), 1);
        Tester.due("as in the last GUESS", x.free(127, 0), 64);
        Tester.due("as in the last GUESS, b", x.free(127, 1), 1);
        Tester.due("none", Tester.told("sketch 6;hole a 6;spec 0;").free(63, 0), 0);
        Tester.due("all of one bit", Tester.told("sketch 6;hole a 1;spec 1;").free(1, 0), 2);
        Tester.due("no third hole", x.free(0, 2), -1);
        Tester.due("hole -1", x.free(0, -1), -1);
        Tester.due("guess 128", x.free(128, 0), -1);
        Tester.due("guess -1", x.free(-1, 0), -1);
        for (int far : FAR) {
            Tester.due("guess " + far, x.free(far, 0), -1);
            Tester.due("hole " + far, x.free(0, far), -1);
        }
        Tester.due("no SKETCH", new SketchFiller().free(0, 0), -1);
        SketchFiller five = Tester.told("sketch 6;hole a 1;hole b 1;hole c 1;hole d 1;hole e 3;spec e=5&d|a;");
        Tester.due("the fifth, with d", five.free(8, 4), 1);
        Tester.due("the fifth, with a", five.free(64, 4), 8);
        Tester.due("no sixth", five.free(64, 5), -1);
    }

    private static void freePinsOrNot() {
        Tester.by("25: (PINS or not)");
        SketchFiller x = Tester.told("sketch 3;in x 2;hole a 2;hole b 1;spec a<3;");
        Tester.due("without", x.free(0, 0), 3);
        x.pin(0, 3);
        Tester.due("PINNED to one that does not", x.free(0, 0), 3);
        x.pin(1, 1);
        Tester.due("of a GUESS that is OUT", x.free(0, 0), 3);
        x.keep(0);
        Tester.due("KEPT or not", x.free(6, 1), 0);
        Tester.due("KEPT or not, both", x.free(4, 1), 2);
    }

    // ---- 26, 27

    private static void neededBounds() {
        Tester.by("26: without it more were LEFT: 1, else 0; NONE: none such");
        Tester.due("no SKETCH", new SketchFiller().needed(0), -1);
        SketchFiller x = Tester.told(ONE_EACH);
        Tester.due("none KEPT", x.needed(0), -1);
        x.keep(9);
        Tester.due("one KEPT", x.needed(0), 1);
        Tester.due("no second", x.needed(1), -1);
        Tester.due("-1", x.needed(-1), -1);
        for (int far : FAR) Tester.due("needed " + far, x.needed(far), -1);
        x.pin(0, 8);
        Tester.due("REFUTES none that is not OUT", x.needed(0), 0);
        x.pin(0, 9);
        Tester.due("REFUTES the one that is not OUT", x.needed(0), 1);
        SketchFiller y = keptFrom("sketch 3;in x 3;hole h 3;spec h;", 0, 2);
        Tester.due("each does what the other does, 0", y.needed(0), 0);
        Tester.due("each does what the other does, 1", y.needed(1), 0);
        y.drop(1);
        Tester.due("alone it is", y.needed(0), 1);
        SketchFiller z = keptFrom("sketch 3;in x 3;hole h 3;spec 1;", 3, 4);
        Tester.due("REFUTES none", z.needed(0), 0);
    }

    private static void neededOfForty() {
        Tester.by("26, 27: forty KEPT");
        SketchFiller x = keptFrom(ONE_EACH, 24, 64);
        Tester.due("the first", x.needed(0), 1);
        Tester.due("the thirty-second", x.needed(31), 1);
        Tester.due("the thirty-third", x.needed(32), 1);
        Tester.due("the fortieth", x.needed(39), 1);
        Tester.due("no other", x.needed(40), -1);
        Tester.due("63", x.needed(63), -1);
        Tester.due("64", x.needed(64), -1);
        Tester.due("all stay", x.core(-1), 40);
        for (int i = 0; i < 40; i++) Tester.due("core " + i, x.core(i), 24 + i);
        Tester.due("core 40", x.core(40), -1);
        SketchFiller y = keptFrom("sketch 6;in x 6;hole h 6;spec h;", 24, 64);
        Tester.due("the first alone stays", y.core(-1), 1);
        Tester.due("it is the first", y.core(0), 24);
        Tester.due("none else", y.core(1), -1);
        Tester.due("none is needed, the first", y.needed(0), 0);
        Tester.due("none is needed, the last", y.needed(39), 0);
        SketchFiller last = keptFrom("sketch 6;in x 6;hole h 6;spec h|x<63;", 24, 64);
        Tester.due("the last alone stays", last.core(-1), 1);
        Tester.due("it is the last", last.core(0), 63);
        Tester.due("it is needed", last.needed(39), 1);
        Tester.due("the one ahead of it is not", last.needed(38), 0);
    }

    private static void coreBounds() {
        Tester.by("27: the i-th that stays (i NONE: how many stay); NONE: none such, no SKETCH");
        for (int i = -2; i < 2; i++) Tester.due("no SKETCH, " + i, new SketchFiller().core(i), -1);
        SketchFiller x = Tester.told(ONE_EACH);
        Tester.due("none KEPT: none stay", x.core(-1), 0);
        Tester.due("none KEPT: no first", x.core(0), -1);
        x.keep(5);
        x.keep(3);
        Tester.due("two stay", x.core(-1), 2);
        Tester.due("the first", x.core(0), 5);
        Tester.due("the last", x.core(1), 3);
        Tester.due("none behind", x.core(2), -1);
        Tester.due("-2", x.core(-2), -1);
        for (int far : FAR) Tester.due("core " + far, x.core(far), -1);
        x.pin(0, 3);
        Tester.due("one stays", x.core(-1), 1);
        Tester.due("that which counts", x.core(0), 3);
        Tester.due("none behind it", x.core(1), -1);
        Tester.due("KEPT stay as they are", x.state(2), 2);
    }

    private static void coreLatestFirst() {
        Tester.by("27: left out one by one, the latest one first, if the same are LEFT without it and those left out");
        // The bits of an input tell which of the four guesses it refutes.
        String text = "sketch 4;in x 4;hole h 2;var m;m=1;if h=1{m=2;}if h=2{m=4;}if h=3{m=8;}spec (x&m)=0;";
        int[][] kept = {{3, 1, 2}, {1, 2, 3}, {1, 3, 2}, {0, 15, 1}, {15, 0}, {5, 10, 15}, {15, 5, 10}, {3, 6, 12, 9}};
        int[][] core = {{3}, {1, 2}, {3}, {15}, {15}, {5, 10}, {15}, {3, 12}};
        for (int r = 0; r < kept.length; r++) {
            SketchFiller x = Tester.told(text);
            for (int input : kept[r]) x.keep(input);
            Tester.due("row " + r, x.core(-1), core[r].length);
            for (int i = 0; i < core[r].length; i++) Tester.due("row " + r + ", " + i, x.core(i), core[r][i]);
            Tester.due("behind row " + r, x.core(core[r].length), -1);
        }
    }

    // ---- 28, 29

    private static void kindsFromNoneToAll() {
        Tester.by("28: Of GUESSES LEFT how many are unlike; NONE: no SKETCH");
        Tester.due("no SKETCH", new SketchFiller().kinds(), -1);
        SketchFiller x = Tester.told(ALL_UNLIKE);
        Tester.due("all 128", x.kinds(), 128);
        x.keep(127);
        Tester.due("all but the last", x.kinds(), 127);
        x.keep(0);
        Tester.due("but the first", x.kinds(), 126);
        x.pin(0, 63);
        Tester.due("of those not OUT", x.kinds(), 1);
        x.pin(1, 1);
        Tester.due("none LEFT", x.kinds(), 0);
        Tester.due("one kind of 128", Tester.told("sketch 6;in x 6;in y 1;hole h 6;hole g 1;spec 1;").kinds(), 1);
        SketchFiller alike = Tester.told("sketch 6;in x 6;in y 1;hole h 6;hole g 1;spec 1;");
        alike.pin(0, 63);
        Tester.due("alike to those that are OUT", alike.kinds(), 1);
        alike.pin(1, 1);
        Tester.due("the last one alone", alike.kinds(), 1);
        Tester.due("one kind that is REFUTED", Tester.told("sketch 6;hole h 6;hole g 1;spec 0;").kinds(), 1);
        // The same INPUTS, other VERDICTS: unlike.
        SketchFiller y = Tester.told("sketch 4;in x 1;hole h 3;var v;if h=1{must 0;}if h=2{v=1/0;}if h=3{while 1 most 1{}}"
                + "if h=4{loop 9{loop 9{v=1;}}}spec h=5;");
        Tester.due("each VERDICT, 6 and 7 as 0", y.kinds(), 6);
        Tester.due("0 and 6", y.alike(0, 6), true);
        for (int g = 0; g < 6; g++) {
            for (int h = 0; h < 6; h++) Tester.due("alike " + g + " " + h, y.alike(g, h), g == h);
        }
    }

    private static void alikeBounds() {
        Tester.by("29: Whether two GUESSES are alike so; false: others");
        Tester.due("no SKETCH", new SketchFiller().alike(0, 0), false);
        SketchFiller x = Tester.told(ALL_UNLIKE);
        Tester.due("the last to itself", x.alike(127, 127), true);
        Tester.due("the first to itself", x.alike(0, 0), true);
        Tester.due("by the last INPUT alone", x.alike(127, 126), false);
        Tester.due("by the first INPUT alone", x.alike(0, 64), false);
        int[][] none = {{128, 128}, {0, 128}, {128, 0}, {-1, -1}, {0, -1}, {-1, 0}, {MIN, MIN}, {MAX, MAX}, {0, MAX}, {MIN, 0}};
        for (int[] g : none) Tester.due(g[0] + " and " + g[1], x.alike(g[0], g[1]), false);
        SketchFiller first = Tester.told("sketch 6;in x 6;in y 1;hole h 1;spec h|x|y;");
        Tester.due("all but the first INPUT", first.alike(0, 1), false);
        Tester.due("two kinds by the first INPUT", first.kinds(), 2);
        SketchFiller y = Tester.told("sketch 6;in x 6;in y 1;hole h 2;spec x<63|1-y|h<2;");
        Tester.due("two kinds by the last INPUT", y.kinds(), 2);
        Tester.due("0 and 1", y.alike(0, 1), true);
        Tester.due("1 and 2, by the last INPUT", y.alike(1, 2), false);
        Tester.due("2 and 3", y.alike(2, 3), true);
        y.pin(0, 0);
        y.keep(127);
        Tester.due("OUT or not, LEFT or not", y.alike(2, 3), true);
    }

    // ---- 30

    private static void shownBounds() {
        Tester.by("30: how many bytes (i NONE), the i-th; NONE: others, none such");
        Tester.due("no SKETCH", new SketchFiller().shown(0, -1), -1);
        Tester.due("no SKETCH, 0", new SketchFiller().shown(0, 0), -1);
        SketchFiller x = Tester.told("sketch 6;hole h 6;hole g 1;spec h=g;");
        Tester.due("of 0", Tester.shown(x, 0), "spec 0 = 0 ;");
        Tester.due("of the last", Tester.shown(x, 127), "spec 63 = 1 ;");
        Tester.due("how many of 0", x.shown(0, -1), 12);
        Tester.due("the first", x.shown(0, 0), 's');
        Tester.due("the last of 0", x.shown(0, 11), ';');
        Tester.due("behind it", x.shown(0, 12), -1);
        Tester.due("far behind it", x.shown(0, 13), -1);
        Tester.due("how many of the last", x.shown(127, -1), 13);
        Tester.due("the last of the last", x.shown(127, 12), ';');
        Tester.due("behind that", x.shown(127, 13), -1);
        Tester.due("a blank", x.shown(0, 4), ' ');
        Tester.due("the blank ahead of ;", x.shown(0, 10), ' ');
        Tester.due("-2", x.shown(0, -2), -1);
        for (int i = -1; i < 2; i++) {
            Tester.due("guess 128, " + i, x.shown(128, i), -1);
            Tester.due("guess -1, " + i, x.shown(-1, i), -1);
        }
        for (int far : FAR) {
            Tester.due("byte " + far, x.shown(0, far), -1);
            Tester.due("guess " + far, x.shown(far, -1), -1);
        }
    }

    private static String shownOf(String body) { return Tester.shown(Tester.told("sketch 6;in x 1;var v;" + body), 0); }

    private static void shownNumbers() {
        Tester.by("30: as told, one blank between, NUMBERS without leading 0s");
        Tester.due("0", shownOf("spec 0;"), "spec 0 ;");
        Tester.due("00000", shownOf("spec 00000;"), "spec 0 ;");
        Tester.due("00001", shownOf("spec 00001;"), "spec 1 ;");
        Tester.due("00010", shownOf("spec 00010;"), "spec 10 ;");
        Tester.due("10000", shownOf("spec 10000;"), "spec 10000 ;");
        Tester.due("01000", shownOf("spec 01000;"), "spec 1000 ;");
        Tester.due("09", shownOf("spec 09;"), "spec 9 ;");
        Tester.due("99999 is not cut to the WIDTH", shownOf("spec 99999;"), "spec 99999 ;");
        Tester.due("loop, most", shownOf("loop 00009{}while 01 most 0001{}spec 1;"), "loop 9 { } while 1 most 1 { } spec 1 ;");
        Tester.due("blanks", shownOf("\n v \n\n =  1\n;spec\n1  ; \n"), "v = 1 ; spec 1 ;");
        Tester.due("no blanks", shownOf("v=-~(x+1-2*3/4%5&6|7^8<9);must x=1;spec v;"),
                "v = - ~ ( x + 1 - 2 * 3 / 4 % 5 & 6 | 7 ^ 8 < 9 ) ; must x = 1 ; spec v ;");
        Tester.due("braces", shownOf("if x{let abcdef=1{abcdef=v;}}else{}spec 1;"),
                "if x { let abcdef = 1 { abcdef = v ; } } else { } spec 1 ;");
        Tester.due("LINES are not shown", Tester.shown(Tester.told("sketch 6;spec 1;"), 0), "spec 1 ;");
    }

    private static void shownHoles() {
        Tester.by("30: holes as their values in it");
        SketchFiller x = Tester.told("sketch 4;hole a 4;hole b 1;hole c 1;hole d 1;var e;e=a*b;if c{must d;}spec e=a|d;");
        Tester.due("of 0", Tester.shown(x, 0), "e = 0 * 0 ; if 0 { must 0 ; } spec e = 0 | 0 ;");
        Tester.due("of 127", Tester.shown(x, 127), "e = 15 * 1 ; if 1 { must 1 ; } spec e = 15 | 1 ;");
        Tester.due("of 74", Tester.shown(x, 74), "e = 9 * 0 ; if 1 { must 0 ; } spec e = 9 | 0 ;");
        Tester.due("of 82", Tester.shown(x, 82), "e = 10 * 0 ; if 1 { must 0 ; } spec e = 10 | 0 ;");
        x.pin(0, 3);
        Tester.due("PINS or not", x.shown(82, -1), "e = 10 * 0 ; if 1 { must 0 ; } spec e = 10 | 0 ;".length());
    }

    private static void shownLongest() {
        Tester.by("30: of THE TAPE's 800 bytes");
        // Each byte behind the first line is a TOKEN: nearly each has a blank behind it.
        String text = "sketch 6;hole h 6;spec h" + "+h".repeat(387) + ";";
        Tester.due("799 bytes", text.length(), 799);
        SketchFiller x = Tester.told(text);
        Tester.due("of 9", x.shown(9, -1), 4 + 388 * 2 + 387 * 2 + 2);
        Tester.due("of 10, two digits each", x.shown(10, -1), 4 + 388 * 3 + 387 * 2 + 2);
        Tester.due("the last of 10", x.shown(10, 4 + 388 * 3 + 387 * 2 + 1), ';');
        Tester.due("behind it", x.shown(10, 4 + 388 * 3 + 387 * 2 + 2), -1);
        Tester.due("the last digit of 63", x.shown(63, 4 + 388 * 3 + 387 * 2 - 1), '3');
        Tester.due("ends in time", x.verdict(63, 0), (63 * 388 & 63) != 0 ? 0 : 1);
    }

    // ---- what is only asked for changes nothing

    private static final String[] ASKED = {"has", "hole", "value", "cost", "ranked", "verdict", "steps", "ends", "refuter", "state",
        "many", "by", "refutes", "sharpest", "free", "needed", "core", "kinds", "alike", "shown"};

    private static long ask(SketchFiller x, String name, int a, int b) {
        switch (name) {
            case "has": return x.has(a);
            case "hole": return x.hole(a, b);
            case "value": return x.value(a, b);
            case "cost": return x.cost(a);
            case "ranked": return Tester.ranked(x, a);
            case "verdict": return x.verdict(a, b);
            case "steps": return x.steps(a, b);
            case "ends": return x.ends(a, b, a & 1);
            case "refuter": return x.refuter(a);
            case "state": return x.state(a);
            case "many": return x.many(a);
            case "by": return x.by(a, b);
            case "refutes": return x.refutes(a);
            case "sharpest": return x.sharpest(a);
            case "free": return x.free(a, b);
            case "needed": return x.needed(a);
            case "core": return x.core(a);
            case "kinds": return x.kinds();
            case "alike": return x.alike(a, b) ? 1 : 0;
            default: return x.shown(a, b);
        }
    }

    private static void askedInEachState() {
        Tester.by("what is only asked for changes nothing");
        Tester.Maker[] makers = {EdgesOfSearchTest::fresh, EdgesOfSearchTest::guessed, EdgesOfSearchTest::found, EdgesOfSearchTest::no,
            EdgesOfSearchTest::full, Tester::used};
        int[] args = {MIN, -2, -1, 0, 1, 2, 6, 7, 10, 31, 32, 39, 40, 63, 64, MAX};
        for (Tester.Maker maker : makers) {
            for (String name : ASKED) {
                for (int a : args) {
                    SketchFiller x = maker.make();
                    String before = Tester.snapshot(x);
                    for (int b : args) {
                        long once = ask(x, name, a, b);
                        Tester.due(name + " " + a + " " + b + " twice", ask(x, name, a, b), once);
                    }
                    Tester.due("all stays behind " + name + " " + a, Tester.snapshot(x), before);
                }
            }
        }
    }

    private static void askedWithoutSketch() {
        Tester.by("1: No SKETCH");
        int[] args = {MIN, -2, -1, 0, 1, 2, 6, 7, 10, 31, 32, 39, 40, 63, 64, MAX};
        for (String name : ASKED) {
            for (int a : args) {
                SketchFiller x = new SketchFiller();
                long want = name.equals("ranked") ? Tester.THROWS : name.equals("refuter") ? -2 : name.equals("alike") ? 0 : -1;
                for (int b : args) Tester.due("no SKETCH, " + name + " " + a + " " + b, ask(x, name, a, b), want);
                Tester.due("still no SKETCH behind " + name, x.has(0), -1);
            }
        }
        // Calls that would change something are refused, and a SKETCH told then begins as ever.
        SketchFiller x = new SketchFiller();
        for (int a : args) {
            for (int b : args) {
                Tester.due("pin", x.pin(a, b), false);
                if (a != MIN) continue;
                Tester.due("keep", x.keep(b), -1);
                Tester.due("drop", x.drop(b), -1);
                Tester.due("go", x.go(b), -1);
                Tester.due("set 0", x.set(0, b), -1);
                Tester.due("set 1", x.set(1, b), -1);
            }
        }
        Tester.due("guess", x.guess(), -1);
        Tester.due("check", x.check(), -1);
        Tester.due("a first SKETCH", Tester.tell(x, EdgesOfSearchTest.TEXT), 2);
        Tester.due("as ever", Tester.snapshot(x), Tester.snapshot(EdgesOfSearchTest.fresh()));
    }

    private static void the512thCall() {
        Tester.by("An object is used for at most 512 calls after it has been made");
        SketchFiller x = EdgesOfSearchTest.fresh();
        int calls = (EdgesOfSearchTest.TEXT.length() + 19) / 20 + 1;
        for (; calls < 509; calls += 2) {
            Tester.due("keep, call " + calls, x.keep(63), 1);
            Tester.due("drop, call " + calls, x.drop(0), 63);
        }
        for (; calls < 511; calls++) Tester.due("guess, call " + calls, x.state(1), -1);
        Tester.due("the 512th", x.guess(), 0);
    }
}
