/** Promises 33 to 36: the image, what is counted and the digest. */
public final class ToldTest {
    private static final int STATE = -103, OUTSIDE = -102;

    public static void main(String[] args) {
        image();
        latestImage();
        count();
        digest();
        digestByHand();
        Check.end("ToldTest");
    }

    private static void image() {
        MindReaders x = Check.with("a,b");
        Check.due("34: none was kept", x.restore(), STATE);
        Check.due("33: no THINGS", x.image(), 0);
        Check.due("34: of no THINGS", x.restore(), 0);
        Check.things(x, 10, 20);
        Check.note(x, 0, "a");
        Check.due("33: two THINGS", x.image(), 2);
        x.weigh(0, 50);
        Check.note(x, 0, "b");
        x.thing(70);
        x.weigh(2, 80);
        Check.code(x, "b,a");
        x.signal(0, -1, 1, 0);
        Check.write(x, "hello");
        Check.due("25: ahead of restore()", x.which(), 0);
        Check.due("34: THINGS that came since stay", x.restore(), 3);
        Check.due("34: their WEIGHTS too", x.count(5), 110);
        Check.due("34: NOTES are those of the IMAGE", x.count(3), 1);
        Check.due("34: their rows too", x.which(), 1);
        Check.due("34: CODES stay", x.count(2), 2);
        Check.due("34: SIGNALS stay", x.count(0), 1);
        Check.due("34: THE PAGE stays", x.count(4), 5);
        x.forget();
        x.weigh(1, 1);
        Check.due("34: it may be gone back to again", x.restore(), 3);
        Check.due("34: NOTES come back", x.count(3), 1);
        Check.due("34: WEIGHTS come back", x.weigh(1, 20), 20);
    }

    private static void latestImage() {
        MindReaders x = Check.with("a,b", 10);
        Check.note(x, 0, "b");
        x.image();
        x.forget();
        Check.note(x, 0, "a");
        Check.note(x, 0, "a");
        x.thing(30);
        x.weigh(0, 11);
        Check.due("33: the latest", x.image(), 2);
        x.weigh(0, 99);
        x.weigh(1, 98);
        x.forget();
        Check.due("34: the latest", x.restore(), 2);
        Check.due("34: its WEIGHTS", x.count(5), 41);
        Check.due("34: its NOTES", x.count(3), 2);
        Check.due("34: their rows", x.which(), 1);
        Check.note(x, 0, "b");
        Check.due("34: a NOTE behind it is not in the IMAGE", x.count(3), 3);
        x.restore();
        Check.due("34: the IMAGE stays as it was kept", x.count(3), 2);
        Check.due("34: and its rows", x.which(), 1);
    }

    private static void count() {
        MindReaders x = Check.withKinds();
        Check.code(x, "a");
        Check.code(x, "b");
        Check.things(x, 1, 2, 3);
        Check.note(x, 0, "a");
        Check.write(x, "hello, you");
        int[] due = {5, 3, 2, 1, 10, 6};
        for (int what = 0; what <= 5; what++) {
            Check.due("35: count(" + what + ")", x.count(what), due[what]);
        }
        Check.due("35: -1", x.count(-1), OUTSIDE);
        Check.due("35: 6", x.count(6), OUTSIDE);
        Check.due("35: wild", x.count(Integer.MIN_VALUE), OUTSIDE);
    }

    private static long mixed(long h, long... numbers) {
        for (long number : numbers) {
            h = 31 * h + number;
        }
        return h;
    }

    private static void digest() {
        long due = mixed(479, 0, 0, 0, 0, 0, 0, 0);
        Check.due("36: of a new one", new MindReaders().digest(), due);
    }

    private static void digestByHand() {
        MindReaders x = Check.withKinds();
        Check.things(x, 10, 20, 30);
        Check.code(x, "ac,b");
        Check.code(x, "b,bb,b");
        Check.note(x, 1, "bdd");
        x.note(0);
        Check.write(x, "a!~");
        long h = mixed(479, 0, -1, 1, 0, 1, -1, 2, 1, 2, 1, 3, 2, 3, -1, 4, 3, 4, -1, 5, 4);
        h = mixed(h, 10, 20, 30);
        h = mixed(h, 2, 0, 2, -1, -1, -1, 3, 4, 1, 1, -1, -1, -1, -1, 1, 2, 1, -1, 40, -1, 7);
        h = mixed(h, 1, 1, -1, -1, -1, -1, 1, 2, 2, 1, 1, -1, -1, -1, 2, 4, 1, 1, -1, -1, -1, -1, 1, 2);
        h = mixed(h, 0, 1, 80, -1, 2);
        h = mixed(h, 1, 3, 1, 3, 3, 0, 0);
        h = mixed(h, 0, 97, 33, 126, 5, 3, 2, 2, 3, 60);
        Check.due("36: by hand", x.digest(), h);
        Check.due("36: it changes nothing", x.digest(), h);
    }
}
