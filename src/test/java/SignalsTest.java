/** Promises 1 to 11: the page, codes as texts, signals, things and speeches. */
public final class SignalsTest {
    private static final int NONE = -1, UNKNOWN = -101, OUTSIDE = -102, STATE = -103, FULL = -104;
    private static final int MIN = Integer.MIN_VALUE, MAX = Integer.MAX_VALUE;

    public static void main(String[] args) {
        newObject();
        letters();
        blank();
        fault();
        code();
        signal();
        as();
        about();
        thing();
        weigh();
        speech();
        plain();
        Check.end("SignalsTest");
    }

    private static void newObject() {
        MindReaders x = new MindReaders();
        for (int what = 0; what <= 5; what++) {
            Check.due("1: count(" + what + ") of a new one", x.count(what), 0);
        }
        Check.due("1: a new one has no SIGNAL", x.about(0, 0), UNKNOWN);
        Check.due("1: a new one has no THING", x.weigh(0, 1), UNKNOWN);
        Check.due("1: a new one has no CODE", x.means(0), UNKNOWN);
        Check.due("1: a new one has no NOTES", x.forget(), 0);
        Check.due("1: a new one has no IMAGE", x.restore(), STATE);
        MindReaders other = new MindReaders();
        other.thing(5);
        Check.due("1: each has its own THINGS", x.count(1), 0);
    }

    private static void letters() {
        MindReaders x = new MindReaders();
        Check.due("2: letters(0)", x.letters(0), 0);
        Check.due("2: one letter", x.letters(97), 1);
        Check.due("2: letters come behind", x.letters(Check.bytes("bc")), 3);
        Check.due("2: eight", x.letters(Check.bytes("abcdefgh")), 11);
        Check.due("2: byte 126", x.letters(126), 12);
        Check.due("2: byte 1", x.letters(1), 13);
        Check.due("2: byte 127", x.letters(127), OUTSIDE);
        Check.due("2: byte 128", x.letters(128), OUTSIDE);
        Check.due("2: byte 255", x.letters(255), OUTSIDE);
        Check.due("2: a byte behind a 0", x.letters(0x610061L), OUTSIDE);
        Check.due("2: first byte 0", x.letters(0x6100L), OUTSIDE);
        Check.due("2: highest byte alone", x.letters(0x6100000000000000L), OUTSIDE);
        Check.due("2: highest byte 128", x.letters(0x8061616161616161L), OUTSIDE);
        Check.due("2: highest byte 127", x.letters(0x7f61616161616161L), OUTSIDE);
        Check.due("2: -1", x.letters(-1), OUTSIDE);
        Check.due("2: least", x.letters(Long.MIN_VALUE), OUTSIDE);
        Check.due("2: refused ones change nothing", x.count(4), 13);
        x.blank();
        Check.write(x, "abcdefghabcdefghabcdefghabcdefghabcdefgh");
        Check.due("2: 40 and 8 are 48", x.letters(Check.bytes("aaaaaaaa")), 48);
        Check.due("2: 49 are too many", x.letters(97), FULL);
        Check.due("2: none more at 48", x.letters(0), 48);
        Check.due("2: OUTSIDE ahead of FULL", x.letters(127), OUTSIDE);
        x.blank();
        Check.write(x, "abcdefghabcdefghabcdefghabcdefghabcdefghabcde");
        Check.due("2: 45 and 4", x.letters(Check.bytes("abcd")), FULL);
        Check.due("2: FULL puts none down", x.count(4), 45);
        Check.due("2: 45 and 3", x.letters(Check.bytes("abc")), 48);
    }

    private static void blank() {
        MindReaders x = new MindReaders();
        Check.due("3: blank of none", x.blank(), 0);
        Check.write(x, "hello");
        Check.due("3: blank", x.blank(), 5);
        Check.due("3: blank again", x.blank(), 0);
        Check.due("3: empty then", x.count(4), 0);
    }

    private static int faultOf(String text) {
        MindReaders x = new MindReaders();
        Check.write(x, text);
        return x.fault();
    }

    private static void fault() {
        Check.due("4: empty", faultOf(""), 0);
        Check.due("4: a", faultOf("a"), 1);
        Check.due("4: comma first", faultOf(",a"), 0);
        Check.due("4: comma last has none yet", faultOf("a,"), 2);
        Check.due("4: two commas", faultOf("a,,b"), 2);
        Check.due("4: i", faultOf("abi"), 2);
        Check.due("4: h", faultOf("abh"), 3);
        Check.due("4: A", faultOf("A"), 0);
        Check.due("4: blank sign", faultOf("a, b"), 2);
        Check.due("4: sign ahead of a", faultOf("`"), 0);
        Check.due("4: five letters", faultOf("abcde"), 5);
        Check.due("4: six letters", faultOf("abcdef"), 5);
        Check.due("4: six letters in the second", faultOf("a,abcdefg"), 7);
        Check.due("4: eight SPEECHES", faultOf("a,b,c,d,e,f,g,h"), 15);
        Check.due("4: nine SPEECHES", faultOf("a,b,c,d,e,f,g,h,a"), 15);
        Check.due("4: the longest", faultOf("abcde,abcde,abcde,abcde,abcde,abcde,abcde,abcde"), 47);
        Check.due("4: longer", faultOf("abcde,abcde,abcde,abcde,abcde,abcde,abcde,abcde,"), 47);
        MindReaders x = Check.with("a,b");
        Check.write(x, "ax");
        x.fault();
        Check.due("4: it changes nothing", x.count(4), 2);
    }

    private static void code() {
        MindReaders x = new MindReaders();
        Check.due("5: empty", x.code(), STATE);
        String[] none = {"a,", ",", "a,,b", "abcdef", "a,b,c,d,e,f,g,h,a", "i", "a b", "ab,A"};
        for (String text : none) {
            Check.due("5: " + text, Check.code(x, text), STATE);
            Check.due("5: THE PAGE stays, " + text, x.count(4), text.length());
        }
        Check.due("5: no CODE came", x.count(2), 0);
        Check.due("5: first", Check.code(x, "a"), 0);
        Check.due("5: THE PAGE is empty then", x.count(4), 0);
        Check.due("5: second", Check.code(x, "abcde,abcde,abcde,abcde,abcde,abcde,abcde,abcde"), 1);
        Check.due("5: a like one is another one", Check.code(x, "a"), 2);
        Check.due("5: fourth", Check.code(x, "h,g,f,e,d,c,b,a"), 3);
        Check.due("5: fifth", Check.code(x, "a"), FULL);
        Check.due("5: THE PAGE stays at FULL", x.count(4), 1);
        Check.due("5: STATE ahead of FULL", Check.code(x, "a,"), STATE);
        Check.due("5: four", x.count(2), 4);
        Check.due("5: SPEECHES are read", x.speech(3, 2, 1), 5);
        Check.due("5: and no more of them", x.speech(0, 1, 0), UNKNOWN);
    }

    private static void signal() {
        MindReaders x = new MindReaders();
        Check.due("6: kind -1", x.signal(-1, -1, 1, 0), OUTSIDE);
        Check.due("6: kind 5", x.signal(5, -1, 1, 0), OUTSIDE);
        Check.due("6: kind ahead of n", x.signal(5, 7, 1, 0), OUTSIDE);
        Check.due("6: TONED of none", x.signal(2, -1, 1, 0), UNKNOWN);
        Check.due("6: TONED of itself", x.signal(2, 0, 1, 0), UNKNOWN);
        Check.due("6: WORD with n", x.signal(0, 0, 1, 0), UNKNOWN);
        Check.due("6: n ahead of seconds", x.signal(0, 0, 0, 0), UNKNOWN);
        Check.due("6: n -2", x.signal(0, -2, 1, 0), UNKNOWN);
        Check.due("6: seconds 0", x.signal(0, -1, 0, 0), OUTSIDE);
        Check.due("6: seconds 10", x.signal(0, -1, 10, 0), OUTSIDE);
        Check.due("6: odd -1", x.signal(0, -1, 1, -1), OUTSIDE);
        Check.due("6: odd 10", x.signal(0, -1, 1, 10), OUTSIDE);
        Check.due("6: wild", x.signal(MIN, MAX, MIN, MAX), OUTSIDE);
        Check.due("6: none came", x.count(0), 0);
        Check.due("6: WORD", x.signal(0, -1, 1, 0), 0);
        Check.due("6: PAUSE", x.signal(1, -1, 9, 9), 1);
        Check.due("6: TONED of a WORD", x.signal(2, 0, 1, 0), 2);
        Check.due("6: TONED of a PAUSE", x.signal(2, 1, 1, 0), 3);
        Check.due("6: EMPTY", x.signal(3, -1, 1, 0), 4);
        Check.due("6: MENDING", x.signal(4, -1, 1, 0), 5);
        Check.due("6: TONED of a TONED", x.signal(2, 2, 1, 0), UNKNOWN);
        Check.due("6: TONED of an EMPTY", x.signal(2, 4, 1, 0), UNKNOWN);
        Check.due("6: TONED of a MENDING", x.signal(2, 5, 1, 0), UNKNOWN);
        Check.due("6: TONED of one not told", x.signal(2, 6, 1, 0), UNKNOWN);
        Check.due("6: TONED of " + MIN, x.signal(2, MIN, 1, 0), UNKNOWN);
        Check.due("6: PAUSE with n", x.signal(1, 0, 1, 0), UNKNOWN);
        Check.due("6: EMPTY with n", x.signal(3, 0, 1, 0), UNKNOWN);
        Check.due("6: MENDING with n", x.signal(4, 0, 1, 0), UNKNOWN);
        Check.due("6: seventh", x.signal(0, -1, 1, 0), 6);
        Check.due("6: eighth", x.signal(0, -1, 1, 0), 7);
        Check.due("6: ninth", x.signal(0, -1, 1, 0), FULL);
        Check.due("6: OUTSIDE ahead of FULL", x.signal(0, -1, 1, 10), OUTSIDE);
        Check.due("6: UNKNOWN ahead of FULL", x.signal(0, 0, 1, 1), UNKNOWN);
        Check.due("6: eight", x.count(0), 8);
    }

    private static void as() {
        MindReaders x = Check.withKinds();
        int[][] due = {
            {0, NONE, NONE, NONE, NONE},
            {1, 1, NONE, NONE, NONE},
            {2, 2, 2, NONE, NONE},
            {3, NONE, NONE, 3, NONE},
            {4, NONE, NONE, NONE, 4}};
        for (int s = 0; s < 5; s++) {
            for (int kind = 0; kind < 5; kind++) {
                Check.due("7: as(" + s + ", " + kind + ")", x.as(s, kind), due[s][kind]);
            }
            Check.due("7: kind -1", x.as(s, -1), OUTSIDE);
            Check.due("7: kind 5", x.as(s, 5), OUTSIDE);
        }
        Check.due("7: not told", x.as(5, 0), UNKNOWN);
        Check.due("7: -1", x.as(-1, 0), UNKNOWN);
        Check.due("7: UNKNOWN ahead of OUTSIDE", x.as(8, 9), UNKNOWN);
        Check.due("7: wild", x.as(MIN, MAX), UNKNOWN);
    }

    private static void about() {
        MindReaders x = Check.withKinds();
        int[][] due = {{0, NONE, 1, 0}, {1, NONE, 2, 1}, {2, 1, 3, 2}, {3, NONE, 4, 3}, {4, NONE, 5, 4}};
        for (int s = 0; s < 5; s++) {
            for (int what = 0; what < 4; what++) {
                Check.due("8: about(" + s + ", " + what + ")", x.about(s, what), due[s][what]);
            }
            Check.due("8: what -1", x.about(s, -1), OUTSIDE);
            Check.due("8: what 4", x.about(s, 4), OUTSIDE);
        }
        Check.due("8: not told", x.about(5, 0), UNKNOWN);
        Check.due("8: UNKNOWN ahead of OUTSIDE", x.about(-1, 4), UNKNOWN);
    }

    private static void thing() {
        MindReaders x = new MindReaders();
        Check.due("9: 0", x.thing(0), OUTSIDE);
        Check.due("9: 100", x.thing(100), OUTSIDE);
        Check.due("9: -1", x.thing(-1), OUTSIDE);
        for (int i = 0; i < 8; i++) {
            Check.due("9: thing " + i, x.thing(i == 0 ? 99 : i), i);
        }
        Check.due("9: ninth", x.thing(1), FULL);
        Check.due("9: OUTSIDE ahead of FULL", x.thing(100), OUTSIDE);
        Check.due("9: eight", x.count(1), 8);
        Check.due("9: WEIGHTS", x.count(5), 99 + 28);
    }

    private static void weigh() {
        MindReaders x = new MindReaders();
        Check.due("10: no THING", x.weigh(0, 1), UNKNOWN);
        Check.things(x, 10, 20);
        Check.due("10: what it was", x.weigh(1, 99), 20);
        Check.due("10: what it became", x.weigh(1, 1), 99);
        Check.due("10: 0", x.weigh(1, 0), OUTSIDE);
        Check.due("10: 100", x.weigh(1, 100), OUTSIDE);
        Check.due("10: UNKNOWN ahead of OUTSIDE", x.weigh(2, 100), UNKNOWN);
        Check.due("10: -1", x.weigh(-1, 5), UNKNOWN);
        Check.due("10: refused ones change nothing", x.count(5), 11);
    }

    private static void speech() {
        MindReaders x = Check.withKinds();
        Check.code(x, "acb,ddddd,ccccc,fh");
        int[][] letters = {{3, 0, 2, 1, -1, -1}, {5, 3, 3, 3, 3, 3}, {5, 2, 2, 2, 2, 2}, {2, 5, 7, -1, -1, -1}};
        int[][] plain = {{4, 0, 1, 1, 1}, {0}, {10, 1, 1, 1, 1, 1, 1, 1, 1, 1, 1}, {2, 5, 7}};
        int[] longs = {6, 20, 15, 2};
        for (int s = 0; s < 4; s++) {
            for (int i = 0; i <= 5; i++) {
                Check.due("11: speech(0, " + s + ", " + i + ")", x.speech(0, s, i), letters[s][i]);
            }
            for (int i = 0; i <= 10; i++) {
                int due = i < plain[s].length ? plain[s][i] : NONE;
                Check.due("11: speech(0, " + s + ", " + (10 + i) + ")", x.speech(0, s, 10 + i), due);
            }
            Check.due("11: LONG of " + s, x.speech(0, s, 30), longs[s]);
            for (int i : new int[] {-1, 6, 9, 21, 29, 31, MIN, MAX}) {
                Check.due("11: i = " + i, x.speech(0, s, i), OUTSIDE);
            }
        }
        Check.due("11: SPEECH 4", x.speech(0, 4, 0), UNKNOWN);
        Check.due("11: SPEECH -1", x.speech(0, -1, 0), UNKNOWN);
        Check.due("11: CODE 1", x.speech(1, 0, 0), UNKNOWN);
        Check.due("11: CODE -1", x.speech(-1, 0, 0), UNKNOWN);
        Check.due("11: UNKNOWN ahead of OUTSIDE", x.speech(0, 4, 99), UNKNOWN);
    }

    private static String plainOf(MindReaders x, String speech) {
        int code = Check.code(x, speech);
        StringBuilder plain = new StringBuilder();
        for (int i = 0; i < x.speech(code, 0, 10); i++) {
            plain.append((char) ('a' + x.speech(code, 0, 11 + i)));
        }
        return plain.toString();
    }

    private static void isPlain(String speech, String due) {
        String plain = plainOf(Check.withKinds(), speech);
        Check.holds("11: " + speech + " is PLAIN " + due + ", not " + plain, plain.equals(due));
    }

    private static void plain() {
        isPlain("a", "a");
        isPlain("ab", "ab");
        isPlain("c", "bb");
        isPlain("d", "");
        isPlain("e", "");
        isPlain("ea", "a");
        isPlain("ae", "");
        isPlain("aee", "");
        isPlain("aeeb", "b");
        isPlain("ce", "b");
        isPlain("cee", "");
        isPlain("ade", "");
        isPlain("adbe", "a");
        isPlain("fgh", "fgh");
        isPlain("fce", "fb");

        MindReaders x = Check.with("ab,cb");
        Check.due("11: not told is a WORD of 1 SECOND", x.speech(0, 0, 30), 2);
        x.signal(1, -1, 7, 0);
        x.signal(3, -1, 5, 0);
        Check.due("11: LONG once it is told", x.speech(0, 0, 30), 12);
        Check.due("11: PLAIN once it is told", x.speech(0, 0, 10), 1);
        Check.due("11: letters stay", x.speech(0, 0, 0), 2);
        x.signal(2, 0, 1, 0);
        Check.due("11: PLAIN once a TONED is told", x.speech(0, 1, 10), 2);
        Check.due("11: what stands then", x.speech(0, 1, 12), 0);
    }
}
