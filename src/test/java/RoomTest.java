import java.lang.management.ManagementFactory;

/**
 * All calls of a run live in one room of some 600,000 objects and 7.3 million elements. Each object
 * takes at least sixteen bytes and each element at least one, so a run that makes less than a million
 * bytes is far within both.
 */
public final class RoomTest {
    private static final long MOST_BYTES = 1000000;
    private static final int MOST_CALLS = 512;
    private static final com.sun.management.ThreadMXBean MEMORY =
            (com.sun.management.ThreadMXBean) ManagementFactory.getThreadMXBean();

    /** A run of 512 calls: the texts are told again and again, the row of calls is gone through between. */
    private interface Round { int calls(SketchFiller x); }

    public static void main(String[] args) {
        String most = "sketch 6;in x 6;in y 1;hole h 6;hole g 1;var v;v=x;spec (x=h&y=g)=0";
        String full = most + "+0".repeat((799 - most.length()) / 2) + ";";
        String least = "sketch 1;spec 1;";
        String middle = "sketch 6;in x 6;in y 1;hole h 6;hole g 1;spec 1;";
        of("the longest texts", telling(full));
        of("the shortest texts", telling(least));
        of("texts with the most guesses", telling(middle));
        of("faults", telling("?"));
        of("no text", x -> { x.sketch(0); return 1; });
        of("asking", RoomTest::asking);
        of("searching", RoomTest::searching);
        Tester.end();
    }

    private static void of(String what, Round round) {
        // Once ahead of it, for what the first use of a class makes not to count.
        run(round);
        long before = MEMORY.getThreadAllocatedBytes(Thread.currentThread().getId());
        run(round);
        long made = MEMORY.getThreadAllocatedBytes(Thread.currentThread().getId()) - before;
        if (made < MOST_BYTES) Tester.due(what, true, true);
        else Tester.due(what + ": bytes made", made, MOST_BYTES);
    }

    private static void run(Round round) {
        SketchFiller x = new SketchFiller();
        for (int calls = 0; calls < MOST_CALLS; ) calls += round.calls(x);
    }

    private static Round telling(String text) {
        int[] numbers = new int[(text.length() + 19) / 20 * 5];
        for (int j = 0; j < numbers.length * 4; j++) {
            numbers[j / 4] = numbers[j / 4] << 8 | (j < text.length() ? text.charAt(j) : ' ');
        }
        int length = text.length();
        return x -> {
            for (int i = 0; i < numbers.length; i += 5) {
                x.feed(numbers[i], numbers[i + 1], numbers[i + 2], numbers[i + 3], numbers[i + 4]);
            }
            x.sketch(length);
            return numbers.length / 5 + 1;
        };
    }

    private static int asking(SketchFiller x) {
        if (x.has(0) == SketchFiller.NONE) Tester.tell(x, EdgesOfSearchTest.TEXT);
        x.keep(7);
        x.hole(0, 2);
        x.value(9, 1);
        x.cost(9);
        x.ranked(3);
        x.verdict(9, 3);
        x.steps(9, 3);
        x.ends(9, 3, 0);
        x.refuter(3);
        x.state(10);
        x.many(4);
        x.by(3, 1);
        x.refutes(3);
        x.sharpest(1);
        x.free(9, 0);
        x.needed(0);
        x.core(-1);
        x.kinds();
        x.alike(3, 5);
        x.shown(9, 20);
        x.drop(0);
        return 22;
    }

    private static int searching(SketchFiller x) {
        if (x.has(0) == SketchFiller.NONE) Tester.tell(x, EdgesOfSearchTest.TEXT);
        x.set(0, x.state(3) == 0 ? 9 : 0);
        x.set(1, 2);
        x.guess();
        x.check();
        x.go(100);
        x.pin(0, 2);
        x.go(100);
        x.pin(0, -1);
        x.drop(0);
        return 10;
    }
}
