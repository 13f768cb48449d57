import java.math.BigInteger;
import java.util.ArrayList;
import java.util.List;

/** The sentences of promises 33 to 36: the image, what is counted and the digest; one test for each. */
final class ToldSentences extends Sentence {
    static void all() {
        image();
        restore();
        count();
        digest();
    }

    private static void image() {
        of(33, "An IMAGE is kept (one; the latest): how many THINGS.");
        MindReaders x = Check.with("a,b");
        for (int things = 0; things <= 8; things++) {
            due("image() of " + things, x.image(), things);
            x.thing(10 + things);
        }
        for (int i = 0; i < 8; i++) {
            x.weigh(i, 50 + i);
            due("image() again", x.image(), 8);
        }
        for (int i = 0; i < 8; i++) {
            x.weigh(i, 1);
        }
        x.restore();
        due("the latest", x.count(5), 8 * 50 + 28);
        x.weigh(0, 1);
        x.restore();
        due("it is kept on", x.count(5), 8 * 50 + 28);
        x = Check.with("a,b", 1);
        Check.note(x, 0, "b");
        x.image();
        x.forget();
        Check.note(x, 0, "a");
        Check.note(x, 0, "a");
        x.image();
        x.forget();
        x.restore();
        due("the latest NOTES", x.count(3), 2);
        due("and their rows", x.which(), 1);
        due("keeping it changes nothing else", busy("abc").digest(), imaged("abc").digest());
    }

    private static MindReaders imaged(String page) {
        MindReaders x = busy(page);
        x.image();
        return x;
    }

    private static void restore() {
        of(34, "It goes on from the IMAGE");
        MindReaders x = busy("ab");
        due("restore()", x.restore(), 3);
        due("WEIGHTS", x.count(5), 60);
        due("NOTES", x.count(3), 1);
        due("their THINGS and rows", x.which(), 1);
        due("THE PAGE stays", x.count(4), 2);
        x.forget();
        x.restore();
        due("NOTES again", x.count(3), 1);
        x = full("");
        x.restore();
        due("fewer NOTES again, when full", x.count(3), 1);
        x = Check.with("a,b", 5);
        x.image();
        Check.note(x, 0, "b");
        x.restore();
        due("no NOTES", x.count(3), 0);
        due("so all CODES are let be", x.which(), 1);
        x = withNotes(10, "");
        x.image();
        x.forget();
        x.restore();
        due("ten NOTES", x.count(3), 10);
        due("they are full again", Check.note(x, 0, "a"), FULL);

        of(34, "(THINGS that came since stay as they are):");
        x = Check.with("a,b", 5, 6);
        x.image();
        Check.things(x, 7, 8, 9, 10, 11, 12);
        x.weigh(0, 99);
        x.weigh(7, 98);
        x.restore();
        int[] due = {5, 6, 7, 8, 9, 10, 11, 98};
        for (int i = 0; i < 8; i++) {
            due("WEIGHT of THING " + i, x.weigh(i, 1), due[i]);
        }
        x = Check.with("a,b");
        x.image();
        Check.things(x, 7);
        x.restore();
        due("an IMAGE of no THINGS", x.count(5), 7);

        of(34, "how many THINGS.");
        x = Check.with("a,b");
        x.image();
        for (int things = 0; things <= 8; things++) {
            due("restore() of " + things, x.restore(), things);
            x.thing(1);
        }

        of(34, "STATE: none was kept.");
        asked("a new one", STATE, MindReaders::new, y -> y.restore());
        asked("one with NOTES and THINGS", STATE, () -> withNotes(10, ""), y -> y.restore());
        due("once one was kept", imaged("").restore(), 3);
        x = new MindReaders();
        x.image();
        due("even one of nothing", x.restore(), 0);
    }

    private static void isCounted(Made made, int... due) {
        for (int what = 0; what < due.length; what++) {
            int told = what;
            asked("count(" + what + ")", due[what], made, x -> x.count(told));
        }
    }

    private static void count() {
        of(35, "How many: 0 SIGNALS, 1 THINGS, 2 CODES, 3 NOTES, 4 letters of THE PAGE, 5 WEIGHTS together.");
        isCounted(MindReaders::new, 0, 0, 0, 0, 0, 0);
        isCounted(() -> busy("hello, you"), 5, 3, 2, 2, 10, 61);
        isCounted(() -> full(LONGEST + "!"), 8, 8, 4, 10, 48, 61 + 40 + 41 + 42 + 43 + 44);
        isCounted(() -> Check.with("a", 99, 99, 99, 99, 99, 99, 99, 99), 0, 8, 1, 0, 0, 8 * 99);

        of(35, "OUTSIDE.");
        for (int what : outside(0, 5)) {
            asked("count(" + what + ")", OUTSIDE, () -> busy("a"), x -> x.count(what));
        }
    }

    // ---- 36: digest

    private static void digest() {
        of(36, "h is 479, then for each of these numbers, in order, 31 times h, and it (as longs, wrapping):");
        isDigest("nothing there", new MindReaders(), 0, 0, 0, 0, 0, 0, 0);
        due("all full", full(LONGEST + "~").digest(), mixed(numbersOfFull()).longValue());
        due("it goes beyond a long there", mixed(numbersOfFull()).bitLength() > 64 ? 1 : 0, 1);
        asked("it changes nothing", mixed(numbersOfFull()).longValue(), () -> full(LONGEST + "~"), x -> x.digest());

        of(36, "of each SIGNAL what about() tells for 0 to 3;");
        MindReaders x = new MindReaders();
        x.signal(1, NONE, 4, 9);
        x.signal(2, 0, 5, 8);
        isDigest("a PAUSE, a TONED", x, 1, -1, 4, 9, 2, 0, 5, 8, 0, 2, 0, 0, 0, 0, 0);

        of(36, "of each THING WEIGHT;");
        x = new MindReaders();
        Check.things(x, 99, 1, 98);
        isDigest("three", x, 99, 1, 98, 0, 0, 3, 0, 0, 0, 198);
        digestOfCodes();

        of(36, "of each NOTE the THING, how many letters, these (as numbers);");
        x = new MindReaders();
        Check.things(x, 4, 5);
        Check.note(x, 1, "hgfedcba");
        Check.note(x, 0, "");
        Check.note(x, 1, "d");
        isDigest("three", x, 4, 5, 1, 8, 7, 6, 5, 4, 3, 2, 1, 0, 0, 0, 1, 1, 3, 0, 0, 2, 0, 3, 0, 9);
        digestOfTheRest();
    }

    private static void digestOfCodes() {
        of(36, "of each CODE of each SPEECH what speech() tells for 0 to 5, 10, 30,");
        MindReaders x = Check.with("hgfed,a", 7);
        Check.code(x, "b");
        isDigest("two CODES", x, 7, 5, 7, 6, 5, 4, 3, 5, 5, 1, 0, -1, -1, -1, -1, 1, 1, 1, -1, 0, -1, 249,
            1, 1, -1, -1, -1, -1, 1, 1, 1, -1, 0, -1, 0, 3, 0, 1, 2, 0, 0, 7);

        of(36, "CLEAR (whether), TWICE, ODDNESS, APART, STOP;");
        x = new MindReaders();
        x.signal(0, NONE, 1, 2);
        x.signal(0, NONE, 3, 1);
        Check.things(x, 10, 20);
        Check.code(x, "ab,ba");
        Check.code(x, "a,a");
        isDigest("one that is CLEAR, one that is not", x, 0, -1, 1, 2, 0, -1, 3, 1, 10, 20,
            2, 0, 1, -1, -1, -1, 2, 4, 2, 1, 0, -1, -1, -1, 2, 4, 1, -1, 90, 2, 1,
            1, 0, -1, -1, -1, -1, 1, 1, 1, 0, -1, -1, -1, -1, 1, 1, 0, 1, 60, 0, 0, 3, 2, 2, 2, 0, 0, 30);
    }

    private static void digestOfTheRest() {
        of(36, "what which() tells;");
        MindReaders x = Check.with("a", 6);
        Check.code(x, "b");
        Check.note(x, 0, "b");
        isDigest("the second CODE", x, 6, 1, 0, -1, -1, -1, -1, 1, 1, 1, -1, 0, -1, 0, 1, 1, -1, -1, -1, -1, 1, 1, 1, -1, 0, -1, 0,
            0, 1, 1, 2, 0, 1, 2, 1, 0, 6);

        of(36, "letters of THE PAGE, each by its code;");
        x = new MindReaders();
        x.letters(0x017e61);
        isDigest("the least, the greatest and one between", x, 0, 97, 126, 1, 0, 0, 0, 0, 3, 0);

        of(36, "what count() tells for 0 to 5.");
        x = new MindReaders();
        x.signal(0, NONE, 1, 0);
        Check.things(x, 8, 9);
        Check.note(x, 0, "");
        Check.note(x, 0, "");
        Check.note(x, 0, "");
        Check.write(x, "abcd");
        isDigest("unlike ones", x, 0, -1, 1, 0, 8, 9, 0, 0, 0, 0, 0, 0, 0, 97, 98, 99, 100, 1, 2, 0, 3, 4, 17);
    }

    /** What h would be if longs had no end. */
    private static BigInteger mixed(long... numbers) {
        BigInteger h = BigInteger.valueOf(479);
        for (long number : numbers) {
            h = h.multiply(BigInteger.valueOf(31)).add(BigInteger.valueOf(number));
        }
        return h;
    }

    private static void isDigest(String call, MindReaders x, long... numbers) {
        due(call, x.digest(), mixed(numbers).longValue());
    }

    /** The numbers of full() with the longest CODE and "~" on THE PAGE, as the other calls tell them. */
    private static long[] numbersOfFull() {
        MindReaders x = full(LONGEST + "~");
        List<Integer> numbers = new ArrayList<>();
        for (int s = 0; s < 8; s++) {
            for (int what = 0; what <= 3; what++) {
                numbers.add(x.about(s, what));
            }
        }
        numbers.addAll(List.of(11, 20, 30, 40, 41, 42, 43, 44));
        int[] speeches = {4, 2, 3, 3};
        for (int code = 0; code < 4; code++) {
            for (int s = 0; s < speeches[code]; s++) {
                for (int i : new int[] {0, 1, 2, 3, 4, 5, 10, 30}) {
                    numbers.add(x.speech(code, s, i));
                }
            }
            numbers.addAll(List.of(x.clear(code, 0), x.twice(code), x.oddness(code), x.apart(code), x.stop(code)));
        }
        numbers.addAll(List.of(0, 3, 0, 2, 3, 1, 1, 1));
        for (int i = 0; i < 8; i++) {
            numbers.addAll(List.of(2, 2, 5, 6));
        }
        numbers.add(x.which());
        (LONGEST + "~").chars().forEach(letter -> numbers.add(letter));
        numbers.addAll(List.of(8, 8, 4, 10, 48, 271));
        return numbers.stream().mapToLong(v -> v).toArray();
    }
}
