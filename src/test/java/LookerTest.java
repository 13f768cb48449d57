/** Promises 23 to 32: notes, what they let be, changes, luck and stopped signals. */
public final class LookerTest {
    private static final int NONE = -1, UNKNOWN = -101, OUTSIDE = -102, STATE = -103, FULL = -104;
    private static final int MIN = Integer.MIN_VALUE, MAX = Integer.MAX_VALUE;

    public static void main(String[] args) {
        note();
        forget();
        which();
        step();
        stepRefused();
        seen();
        change();
        cheapest();
        luck();
        left();
        stop();
        Check.end("LookerTest");
    }

    private static void note() {
        MindReaders x = Check.with("a,b", 1);
        Check.due("23: no such THING", Check.note(x, 1, "a"), UNKNOWN);
        Check.due("23: UNKNOWN ahead of STATE", Check.note(x, 1, "x"), UNKNOWN);
        Check.due("23: no row", Check.note(x, 0, "a,b"), STATE);
        Check.due("23: nine letters", Check.note(x, 0, "abcdefgha"), STATE);
        Check.due("23: THE PAGE stays", x.count(4), 9);
        Check.due("23: eight letters", Check.note(x, 0, "abcdefgh"), 1);
        Check.due("23: THE PAGE is empty then", x.count(4), 0);
        Check.due("23: an empty row", x.note(0), 2);
        for (int i = 3; i <= 10; i++) {
            Check.due("23: note " + i, Check.note(x, 0, "a"), i);
        }
        Check.due("23: eleventh", Check.note(x, 0, "a"), FULL);
        Check.due("23: THE PAGE stays at FULL", x.count(4), 1);
        Check.due("23: STATE ahead of FULL", Check.note(x, 0, "i"), STATE);
        Check.due("23: -1", x.note(-1), UNKNOWN);
        Check.due("23: ten", x.count(3), 10);
    }

    private static void forget() {
        MindReaders x = Check.with("a,b", 1);
        Check.due("24: none", x.forget(), 0);
        Check.note(x, 0, "b");
        Check.note(x, 0, "a");
        Check.due("24: two", x.forget(), 2);
        Check.due("24: gone", x.count(3), 0);
        Check.due("24: they rule nothing out", x.which(), 1);
        Check.due("24: they begin anew", Check.note(x, 0, "a"), 1);
        Check.due("24: the new one alone", x.which(), 1);
    }

    private static void which() {
        MindReaders x = new MindReaders();
        Check.due("25: no CODES", x.which(), 0);
        Check.code(x, "a,b");
        Check.code(x, "b,a");
        Check.code(x, "a");
        Check.code(x, "ad,bb");
        Check.due("25: no NOTES", x.which(), 15);
        Check.things(x, 1, 1, 1);
        Check.note(x, 0, "a");
        Check.due("25: one NOTE", x.which(), 5);
        Check.note(x, 1, "b");
        Check.due("25: two NOTES, one CODE does not SAY it", x.which(), 1);
        x.signal(0, -1, 1, 0);
        x.signal(1, -1, 1, 0);
        x.signal(3, -1, 1, 0);
        x.signal(3, -1, 1, 0);
        Check.due("25: d stands for nothing now", x.which(), 1);
        x.forget();
        Check.note(x, 0, "ac");
        Check.due("25: PLAIN", x.which(), 13);
        Check.note(x, 2, "a");
        Check.due("25: none SAYS it", x.which(), 0);
    }

    private static void step() {
        MindReaders x = Check.with("a,b,c,d,e", 1, 1, 1, 1);
        Check.due("26: no NOTES", x.step(0, 5), 0);
        Check.note(x, 0, "a");
        Check.due("26: k 0", x.step(0, 1), 0);
        x.forget();
        Check.note(x, 0, "d");
        Check.due("26: week 1", x.step(0, 1), 3);
        Check.due("26: week 3", x.step(0, 3), 1);
        Check.due("26: week 2", x.step(0, 2), NONE);
        Check.due("26: week 0", x.step(0, 0), NONE);
        Check.due("26: week 99", x.step(0, 99), 1);
        Check.due("26: week 97", x.step(0, 97), 3);
        Check.note(x, 3, "c");
        Check.due("26: two NOTES", x.step(0, 1), 3);
        Check.note(x, 1, "b");
        Check.due("26: they don't go together", x.step(0, 1), NONE);
        MindReaders y = Check.with("a,b,c,d,e,f,g,h", 1, 1, 1, 1, 1, 1, 1, 1);
        Check.note(y, 0, "h");
        Check.due("26: k 7", y.step(0, 1), 7);
        Check.due("26: the least k", y.step(0, 7), 1);
        MindReaders z = Check.with("a,b", 1);
        Check.note(z, 0, "b");
        Check.due("26: a SPEECH of no THING that there is", z.step(0, 1), NONE);
        z.thing(1);
        Check.due("26: once there is one", z.step(0, 1), 1);
        z.thing(1);
        Check.note(z, 2, "a");
        Check.due("26: a THING that it does not SAY", z.step(0, 1), NONE);
    }

    private static void stepRefused() {
        MindReaders x = Check.with("a,b");
        Check.due("26: no THING", x.step(0, 1), STATE);
        Check.due("26: OUTSIDE ahead of STATE", x.step(0, 100), OUTSIDE);
        Check.due("26: UNKNOWN ahead of OUTSIDE", x.step(1, 100), UNKNOWN);
        x.thing(1);
        Check.due("26: week -1", x.step(0, -1), OUTSIDE);
        Check.due("26: week 100", x.step(0, 100), OUTSIDE);
        Check.due("26: wild", x.step(MIN, MAX), UNKNOWN);
    }

    private static void isSeen(int n, long above, long below, int... weights) {
        MindReaders x = new MindReaders();
        Check.things(x, weights);
        Check.due("27: ALL SEEN above, n = " + n, x.seen(n, 0), above);
        Check.due("27: ALL SEEN below, n = " + n, x.seen(n, 1), below);
    }

    private static void seen() {
        MindReaders x = new MindReaders();
        Check.due("27: no THINGS", x.seen(1, 0), STATE);
        for (int n : new int[] {0, -1, 7, MIN, MAX}) {
            Check.due("27: n " + n, x.seen(n, 0), OUTSIDE);
        }
        Check.due("27: part 2", x.seen(1, 2), OUTSIDE);
        Check.due("27: part -1", x.seen(1, -1), OUTSIDE);
        isSeen(1, 1, 1, 50);
        isSeen(6, 1, 1, 50);
        isSeen(1, 0, 1, 1, 1);
        isSeen(2, 1, 2, 1, 1);
        isSeen(2, 3, 8, 1, 3);
        isSeen(3, 2, 9, 1, 1, 1);
        isSeen(5, 0, 1, 99, 99, 99, 99, 99, 99);
        isSeen(6, 5, 324, 99, 99, 99, 99, 99, 99);
        isSeen(6, 0, 1, 99, 99, 99, 99, 99, 99, 99, 99);
        isSeen(6, 139635300, 2073071593, 1, 23, 49);
    }

    private static void change() {
        MindReaders x = Check.with("a,b,c");
        Check.code(x, "a,bb");
        Check.code(x, "a,b,c,ddd");
        x.signal(0, -1, 9, 0);
        x.signal(1, -1, 3, 0);
        Check.due("28: none to itself", x.change(0, 0), 0);
        Check.due("28: to a shorter one", x.change(0, 1), 6);
        Check.due("28: back", x.change(1, 0), 4);
        Check.due("28: to a longer one", x.change(0, 2), 3);
        Check.due("28: from a longer one", x.change(2, 0), 0);
        Check.due("28: from", x.change(3, 0), UNKNOWN);
        Check.due("28: to", x.change(0, 3), UNKNOWN);
        Check.due("28: -1", x.change(-1, 0), UNKNOWN);
        MindReaders y = Check.with("a,b");
        Check.code(y, "b,ac");
        y.signal(0, -1, 1, 0);
        y.signal(0, -1, 1, 0);
        y.signal(3, -1, 4, 0);
        Check.due("28: by letters, not PLAIN", y.change(0, 1), 6);
    }

    private static void cheapest() {
        MindReaders x = Check.with("a,b,c");
        Check.due("29: no other one", x.cheapest(0), NONE);
        Check.code(x, "b,b,b");
        Check.due("29: the other one", x.cheapest(0), 1);
        Check.due("29: back", x.cheapest(1), 0);
        Check.code(x, "a,b,d");
        Check.code(x, "a,b,e");
        Check.due("29: of like ones the least", x.cheapest(0), 2);
        Check.due("29: of three", x.cheapest(3), 0);
        Check.due("29: from a far one", x.cheapest(1), 0);
        Check.due("29: UNKNOWN", x.cheapest(4), UNKNOWN);
        Check.due("29: -1", x.cheapest(-1), UNKNOWN);
    }

    private static void isLuck(int n, int k, int r, long above, long below) {
        MindReaders x = new MindReaders();
        Check.due("30: luck(" + n + ", " + k + ", " + r + ", 0)", x.luck(n, k, r, 0), above);
        Check.due("30: luck(" + n + ", " + k + ", " + r + ", 1)", x.luck(n, k, r, 1), below);
    }

    private static void luck() {
        isLuck(1, 2, 0, 1, 1);
        isLuck(1, 2, 1, 1, 2);
        isLuck(2, 2, 1, 3, 4);
        isLuck(2, 3, 1, 5, 9);
        isLuck(3, 2, 2, 1, 2);
        isLuck(12, 9, 0, 1, 1);
        isLuck(12, 9, 12, 1, 282429536481L);
        isLuck(12, 9, 1, 213710059745L, 282429536481L);
        isLuck(12, 2, 6, 1255, 2048);
        isLuck(12, 5, 6, 4737617, 244140625);
        int[][] refused = {{0, 2, 0, 0}, {13, 2, 0, 0}, {1, 1, 0, 0}, {1, 10, 0, 0}, {1, 2, -1, 0}, {1, 2, 2, 0},
            {1, 2, 0, -1}, {1, 2, 0, 2}, {MIN, 2, 0, 0}, {1, MAX, 0, 0}};
        for (int[] a : refused) {
            String call = "30: luck(" + a[0] + ", " + a[1] + ", " + a[2] + ", " + a[3] + ")";
            Check.due(call, new MindReaders().luck(a[0], a[1], a[2], a[3]), OUTSIDE);
        }
    }

    private static void left() {
        MindReaders x = Check.withKinds();
        Check.code(x, "ab,cb,ba,d,aeb");
        Check.due("31: none stopped", x.left(0, 0), 5);
        Check.due("31: a stopped", x.left(0, 1), 3);
        Check.due("31: b stopped, not what is toned of it", x.left(0, 2), 3);
        Check.due("31: e stopped", x.left(0, 16), 4);
        Check.due("31: all stopped", x.left(0, 255), 1);
        Check.due("31: one that is nowhere", x.left(0, 128), 5);
        Check.due("31: -1", x.left(0, -1), OUTSIDE);
        Check.due("31: 256", x.left(0, 256), OUTSIDE);
        Check.due("31: UNKNOWN ahead of OUTSIDE", x.left(1, 256), UNKNOWN);
        Check.due("31: wild", x.left(MIN, MIN), UNKNOWN);
        MindReaders y = Check.with("a,b,c,d,e,f,g,h");
        Check.due("31: all eight", y.left(0, 0), 8);
        Check.due("31: four stopped", y.left(0, 15), 5);
        Check.due("31: it changes nothing", y.speech(0, 0, 0), 1);
    }

    private static void isStop(String code, int due) {
        MindReaders x = Check.withKinds();
        Check.code(x, code);
        Check.due("32: STOP of " + code, x.stop(0), due);
    }

    private static void stop() {
        isStop("a", 0);
        isStop("a,a", 0);
        isStop("c,bb", 0);
        isStop("a,d", 1);
        isStop("a,b", 3);
        isStop("ab,b", 1);
        isStop("ab,ac", 6);
        isStop("a,ae", 1);
        isStop("f,fh,fhh,fg", 192);
        isStop("ah,bh,fhg", 99);
        isStop("bf,c", 38);
        MindReaders x = Check.with("a,b,c,d,e,f,g,h");
        Check.due("32: all eight", x.stop(0), 255);
        MindReaders y = Check.with("ab,ba");
        Check.due("32: of like ones of least bits", y.stop(0), 1);
        Check.due("32: UNKNOWN", y.stop(1), UNKNOWN);
        Check.due("32: -1", y.stop(-1), UNKNOWN);
    }
}
