import java.io.IOException;
import java.nio.file.Files;
import java.nio.file.Path;

/**
 * What the tests by sentence share: which sentence of the document is tested (its words must stand there), and that a
 * refused call changes nothing.
 */
abstract class Sentence {
    static final int NONE = -1, UNKNOWN = -101, OUTSIDE = -102, STATE = -103, FULL = -104;
    static final int MIN = Integer.MIN_VALUE, MAX = Integer.MAX_VALUE;
    /** Where a sentence stands that is of no promise. */
    static final int TERMS = 0;
    static final int PROMISES = 36;

    /** The longest CODE there is: 47 letters. */
    static final String LONGEST = "abcde,abcde,abcde,abcde,abcde,abcde,abcde,abcde";

    private static final Path DOCUMENT = Path.of("../shared/DOC.md");
    private static final String[] TEXTS = new String[PROMISES + 1];
    private static final boolean[][] QUOTED = new boolean[PROMISES + 1][];
    private static String where = "";

    /** How an object is made. */
    interface Made {
        MindReaders make();
    }

    /** A call of an object. */
    interface Asked {
        long of(MindReaders x);
    }

    /** Reads the document, so that the words of each sentence can be looked for in it. */
    static void read() throws IOException {
        if (!Files.exists(DOCUMENT)) {
            System.out.println("no " + DOCUMENT + ": what the sentences say is not compared with it");
            return;
        }
        for (String section : Files.readString(DOCUMENT).split("\n## ")) {
            if (section.startsWith("What it is") || section.startsWith("Terms")) {
                TEXTS[TERMS] = TEXTS[TERMS] == null ? told(section) : TEXTS[TERMS] + " " + told(section);
            } else if (section.startsWith("Promise ")) {
                int end = section.indexOf(':');
                // What the call is comes first and ends with a backquote and a colon.
                TEXTS[Integer.parseInt(section.substring(8, end))] = told(section.substring(section.indexOf("`: ") + 3));
            }
        }
        for (int i = 0; i <= PROMISES; i++) {
            QUOTED[i] = new boolean[TEXTS[i].length()];
        }
        // The short word of what it is, the headings, and which calls stand together, name no boundary.
        quote(TERMS, "What it is");
        quote(TERMS, "Terms");
        int first = TEXTS[TERMS].indexOf("Two who read minds");
        quote(TERMS, TEXTS[TERMS].substring(first, TEXTS[TERMS].indexOf("An object is used")));
        quote(TERMS, TEXTS[TERMS].substring(TEXTS[TERMS].indexOf("Ahead of the calls")));
    }

    private static String told(String section) {
        return section.replace("```text", " ").replace("```", " ").replaceAll("={8} \\d", " ").replaceAll("\\s+", " ").trim();
    }

    private static boolean quote(int promise, String words) {
        boolean found = false;
        for (int at = TEXTS[promise].indexOf(words); at >= 0; at = TEXTS[promise].indexOf(words, at + 1)) {
            found = true;
            for (int i = 0; i < words.length(); i++) {
                QUOTED[promise][at + i] = true;
            }
        }
        return found;
    }

    /** From here on this sentence (or part of one) of that promise is tested. */
    static void of(int promise, String words) {
        where = (promise == TERMS ? "Terms" : "Promise " + promise) + ", \"" + words + "\"";
        Check.holds("the document says: " + where, TEXTS[promise] == null || quote(promise, words));
    }

    /** Every word of the promises and of the terms is one of a sentence that was tested. */
    static void isAllTested() {
        for (int promise = 0; promise <= PROMISES && TEXTS[promise] != null; promise++) {
            StringBuilder left = new StringBuilder();
            for (int i = 0; i < QUOTED[promise].length; i++) {
                left.append(QUOTED[promise][i] ? ' ' : TEXTS[promise].charAt(i));
            }
            String words = left.toString().replaceAll("\\s+", " ").trim();
            Check.holds("a test for what promise " + promise + " says: " + words, words.isEmpty());
        }
    }

    static void due(String call, long got, long want) {
        Check.due(where + ": " + call, got, want);
    }

    /** A call that answers so (it may be refused), and that leaves the object as one of whom it was not asked. */
    static void asked(String call, long due, Made made, Asked asked) {
        MindReaders x = made.make();
        due(call, asked.of(x), due);
        isAsBefore(call, x, made.make());
    }

    private static void isAsBefore(String call, MindReaders x, MindReaders twin) {
        due("digest() behind " + call, x.digest(), twin.digest());
        // What the IMAGE has shows only when it is gone back to.
        due("restore() behind " + call, x.restore(), twin.restore());
        due("digest() behind restore() behind " + call, x.digest(), twin.digest());
    }

    /** One that has some of all, an IMAGE of another WEIGHT and of a NOTE less, and this text on THE PAGE. */
    static MindReaders busy(String page) {
        MindReaders x = Check.withKinds();
        Check.things(x, 10, 20, 30);
        Check.code(x, "ac,b,fgh,ggggg");
        Check.code(x, "b,a");
        Check.note(x, 0, "acd");
        x.image();
        x.weigh(0, 11);
        Check.note(x, 1, "b");
        Check.page(x, page);
        return x;
    }

    /** One that has as many SIGNALS, THINGS, CODES and NOTES as there can be, and this text on THE PAGE. */
    static MindReaders full(String page) {
        MindReaders x = busy("");
        for (int i = 0; i < 10; i++) {
            x.signal(3, NONE, 1, 1);
            x.thing(40 + i);
            Check.code(x, "h,a,ge");
            Check.note(x, 2, "fg");
        }
        Check.page(x, page);
        return x;
    }

    /** One of another numbering than the KINDS: a PAUSE 4s, b TONED of a 5s, c MENDING 6s, d WORD 7s, e EMPTY 8s. */
    static MindReaders mixed() {
        MindReaders x = new MindReaders();
        x.signal(1, NONE, 4, 9);
        x.signal(2, 0, 5, 8);
        x.signal(4, NONE, 6, 7);
        x.signal(0, NONE, 7, 6);
        x.signal(3, NONE, 8, 5);
        return x;
    }

    /** One with a SIGNAL of each KIND, a CODE and THINGS of these WEIGHTS. */
    static MindReaders kindsWith(String code, int... weights) {
        MindReaders x = Check.withKinds();
        Check.code(x, code);
        Check.things(x, weights);
        return x;
    }

    /** One with a CODE, so many THINGS of WEIGHT 1, and one NOTE; all SIGNALS are WORDS. */
    static MindReaders noted(String code, int things, int thing, String row) {
        MindReaders x = Check.with(code);
        for (int i = 0; i < things; i++) {
            x.thing(1);
        }
        Check.note(x, thing, row);
        return x;
    }

    /** One with so many NOTES, all of "a" for THING 0 of two, and this text on THE PAGE. */
    static MindReaders withNotes(int many, String page) {
        MindReaders x = kindsWith("a,b", 1, 1);
        for (int i = 0; i < many; i++) {
            Check.note(x, 0, "a");
        }
        Check.page(x, page);
        return x;
    }

    /** A text of one letter so many times. */
    static String times(char letter, int many) {
        return String.valueOf(letter).repeat(many);
    }

    /** Numbers that name nothing, if there are so many of what is numbered. */
    static int[] beyond(int many) {
        return new int[] {-1, many, many + 1, 8, 99, MIN, MIN + 1, MAX};
    }

    /** Numbers outside of low to high: the ones just beyond them, and the farthest. */
    static int[] outside(int low, int high) {
        return new int[] {low - 1, high + 1, MIN, MAX};
    }
}
