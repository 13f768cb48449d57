import java.util.function.ToLongFunction;

/** Of several refusals the first as told by the call, and a refused call changes nothing: neither the object nor its IMAGE. */
public final class RefusalsTest {
    private static final int UNKNOWN = -101, OUTSIDE = -102, STATE = -103, FULL = -104;
    private static final int FAR = Integer.MAX_VALUE, LOW = Integer.MIN_VALUE;

    private static long ahead;
    private static MindReaders x;

    public static void main(String[] args) {
        unknown();
        outside();
        state();
        full();
        neverThrows();
        Check.end("RefusalsTest");
    }

    /** One with all of it, and what it tells ahead of the calls. */
    private static void make(String page) {
        x = Sentence.busy(page);
        ahead = x.digest();
    }

    private static void refused(String call, int due, ToLongFunction<MindReaders> made) {
        Check.due(call, made.applyAsLong(x), due);
        Check.due("digest() behind " + call, x.digest(), ahead);
    }

    private static void unknown() {
        make("a,");
        for (int none : new int[] {-1, 5, 8, FAR, LOW}) {
            refused("as(" + none + ", 9)", UNKNOWN, o -> o.as(none, 9));
            refused("about(" + none + ", 9)", UNKNOWN, o -> o.about(none, 9));
            refused("signal(2, " + none + ", 0, 10)", UNKNOWN, o -> o.signal(2, none, 0, 10));
            refused("weigh(" + none + ", 0)", UNKNOWN, o -> o.weigh(none, 0));
            refused("note(" + none + ")", UNKNOWN, o -> o.note(none));
            refused("speech(" + none + ", 0, 6)", UNKNOWN, o -> o.speech(none, 0, 6));
            refused("speech(0, " + none + ", 6)", UNKNOWN, o -> o.speech(0, none, 6));
            refused("means(" + none + ")", UNKNOWN, o -> o.means(none));
            refused("clear(" + none + ", 3)", UNKNOWN, o -> o.clear(none, 3));
            refused("starts(" + none + ", 2)", UNKNOWN, o -> o.starts(none, 2));
            refused("twice(" + none + ")", UNKNOWN, o -> o.twice(none));
            refused("mean(" + none + ", 2)", UNKNOWN, o -> o.mean(none, 2));
            refused("oddness(" + none + ")", UNKNOWN, o -> o.oddness(none));
            refused("dealt(" + none + ", 2)", UNKNOWN, o -> o.dealt(none, 2));
            refused("apart(" + none + ")", UNKNOWN, o -> o.apart(none));
            refused("named(" + none + ")", UNKNOWN, o -> o.named(none));
            refused("right(" + none + ", 0, 1, 11, 2)", UNKNOWN, o -> o.right(none, 0, 1, 11, 2));
            refused("right(0, " + none + ", 1, 11, 2)", UNKNOWN, o -> o.right(0, none, 1, 11, 2));
            refused("step(" + none + ", 100)", UNKNOWN, o -> o.step(none, 100));
            refused("change(" + none + ", 0)", UNKNOWN, o -> o.change(none, 0));
            refused("change(0, " + none + ")", UNKNOWN, o -> o.change(0, none));
            refused("cheapest(" + none + ")", UNKNOWN, o -> o.cheapest(none));
            refused("left(" + none + ", 256)", UNKNOWN, o -> o.left(none, 256));
            refused("stop(" + none + ")", UNKNOWN, o -> o.stop(none));
        }
        imageStays();
    }

    private static void outside() {
        make("a,");
        for (int far : new int[] {-1, 100, FAR, LOW}) {
            refused("letters(" + far + " behind a 0)", OUTSIDE, o -> o.letters((long) far << 8 | 0xff00L));
            refused("signal(" + far + ", 9, 0, 10)", OUTSIDE, o -> o.signal(far, 9, 0, 10));
            refused("signal(0, -1, " + far + ", 0)", OUTSIDE, o -> o.signal(0, -1, far, 0));
            refused("signal(0, -1, 1, " + far + ")", OUTSIDE, o -> o.signal(0, -1, 1, far));
            refused("as(0, " + far + ")", OUTSIDE, o -> o.as(0, far));
            refused("about(0, " + far + ")", OUTSIDE, o -> o.about(0, far));
            refused("thing(" + far + ")", OUTSIDE, o -> o.thing(far));
            refused("weigh(0, " + far + ")", OUTSIDE, o -> o.weigh(0, far));
            refused("speech(0, 0, " + far + ")", OUTSIDE, o -> o.speech(0, 0, far));
            refused("clear(0, " + far + ")", OUTSIDE, o -> o.clear(0, far));
            refused("starts(0, " + far + ")", OUTSIDE, o -> o.starts(0, far));
            refused("mean(0, " + far + ")", OUTSIDE, o -> o.mean(0, far));
            refused("dealt(0, " + far + ")", OUTSIDE, o -> o.dealt(0, far));
            refused("shortest(" + far + ", 0)", OUTSIDE, o -> o.shortest(far, 0));
            refused("shortest(2, " + far + ")", OUTSIDE, o -> o.shortest(2, far));
            refused("right(0, 2, " + far + ", 0, 0)", OUTSIDE, o -> o.right(0, 2, far, 0, 0));
            refused("right(0, 2, 2, " + far + ", 0)", OUTSIDE, o -> o.right(0, 2, 2, far, 0));
            refused("right(0, 2, 2, 0, " + far + ")", OUTSIDE, o -> o.right(0, 2, 2, 0, far));
            refused("step(0, " + far + ")", OUTSIDE, o -> o.step(0, far));
            refused("seen(" + far + ", 0)", OUTSIDE, o -> o.seen(far, 0));
            refused("seen(1, " + far + ")", OUTSIDE, o -> o.seen(1, far));
            refused("luck(" + far + ", 2, 0, 0)", OUTSIDE, o -> o.luck(far, 2, 0, 0));
            refused("luck(1, " + far + ", 0, 0)", OUTSIDE, o -> o.luck(1, far, 0, 0));
            refused("luck(1, 2, " + far + ", 0)", OUTSIDE, o -> o.luck(1, 2, far, 0));
            refused("luck(1, 2, 0, " + far + ")", OUTSIDE, o -> o.luck(1, 2, 0, far));
            refused("count(" + far + ")", OUTSIDE, o -> o.count(far));
        }
        refused("left(0, -1)", OUTSIDE, o -> o.left(0, -1));
        refused("left(0, 256)", OUTSIDE, o -> o.left(0, 256));
        imageStays();
    }

    private static void state() {
        for (String page : new String[] {"a,", "x", "ab c", "A"}) {
            make(page);
            refused("code() of " + page, STATE, o -> o.code());
            refused("means(0) of " + page, STATE, o -> o.means(0));
            refused("named(0) of " + page, STATE, o -> o.named(0));
            refused("note(0) of " + page, STATE, o -> o.note(0));
            imageStays();
        }
        make("");
        refused("right, not among the r", STATE, o -> o.right(0, 2, 7, 0, 0));
        x = Check.with("ggggg", 1);
        ahead = x.digest();
        refused("right, more than four", STATE, o -> o.right(0, 0, 8, 0, 0));
        x = Check.with("a,b");
        ahead = x.digest();
        refused("mean() of no THING", STATE, o -> o.mean(0, 0));
        refused("dealt() of no THING", STATE, o -> o.dealt(0, 17));
        refused("shortest() of no THINGS", STATE, o -> o.shortest(8, 1));
        refused("step() of no THING", STATE, o -> o.step(0, 0));
        refused("seen() of no THINGS", STATE, o -> o.seen(6, 1));
        refused("restore() of none", STATE, o -> o.restore());
    }

    private static void full() {
        make("");
        for (int i = 0; i < 8; i++) {
            x.signal(3, -1, 1, 1);
            x.thing(1);
            Check.code(x, "a");
            Check.note(x, 0, "a");
            Check.note(x, 0, "b");
        }
        Check.page(x, "ab");
        ahead = x.digest();
        refused("a ninth SIGNAL", FULL, o -> o.signal(0, -1, 1, 1));
        refused("a ninth THING", FULL, o -> o.thing(1));
        refused("a fifth CODE", FULL, o -> o.code());
        refused("an eleventh NOTE", FULL, o -> o.note(0));
        Check.page(x, "abcdefghabcdefghabcdefghabcdefghabcdefghabcdefg");
        ahead = x.digest();
        refused("a 49th letter", FULL, o -> o.letters(Check.bytes("ab")));
    }

    /** What a refused call left of the IMAGE. */
    private static void imageStays() {
        x.restore();
        Check.due("WEIGHTS of the IMAGE", x.count(5), 60);
        Check.due("NOTES of the IMAGE", x.count(3), 1);
        Check.due("what they let be", x.which(), 1);
    }

    /** All calls with all wild numbers there can be. */
    private static void neverThrows() {
        int[] wild = {LOW, -2, -1, 0, 1, 7, 8, 255, FAR};
        for (String page : new String[] {"", "ab", "a,b", "~"}) {
            make(page);
            for (int a : wild) {
                for (int b : wild) {
                    for (int c : wild) {
                        wildCalls(a, b, c);
                    }
                }
            }
        }
        Check.holds("no call throws", true);
    }

    private static void wildCalls(int a, int b, int c) {
        x.letters((long) a << 32 ^ b);
        x.signal(a, b, c, a);
        x.as(a, b);
        x.about(a, b);
        x.thing(a);
        x.weigh(a, b);
        x.speech(a, b, c);
        x.means(a);
        x.clear(a, b);
        x.starts(a, b);
        x.twice(a);
        x.mean(a, b);
        x.oddness(a);
        x.dealt(a, b);
        x.shortest(a, b);
        x.apart(a);
        x.named(a);
        x.right(a, b, c, 1, 0);
        x.right(0, 0, a, b, c);
        x.note(a);
        x.step(a, b);
        x.seen(a, b);
        x.change(a, b);
        x.cheapest(a);
        x.luck(a, b, c, 0);
        x.luck(12, a, b, c);
        x.left(a, b);
        x.stop(a);
        x.count(a);
    }
}
