/** What the tests share: answers are checked against those that are due, and texts are put on THE PAGE. */
final class Check {
    private static int wrong = 0;
    private static int checked = 0;

    private Check() {
    }

    static void due(String call, long got, long want) {
        checked++;
        if (got != want) {
            wrong++;
            System.out.println(call + " answered " + got + ", due is " + want);
        }
    }

    static void holds(String what, boolean held) {
        checked++;
        if (!held) {
            wrong++;
            System.out.println("does not hold: " + what);
        }
    }

    static boolean isWrong() {
        return wrong > 0;
    }

    /** The number whose bytes, the lowest first, are the codes of up to eight letters. */
    static long bytes(String text) {
        long w = 0;
        for (int i = 0; i < text.length(); i++) {
            w |= (long) text.charAt(i) << (8 * i);
        }
        return w;
    }

    /** Puts a text behind what stands on THE PAGE. */
    static void write(MindReaders x, String text) {
        for (int i = 0; i < text.length(); i += 8) {
            x.letters(bytes(text.substring(i, Math.min(text.length(), i + 8))));
        }
    }

    /** Puts a text on THE PAGE in place of what stands there. */
    static void page(MindReaders x, String text) {
        x.blank();
        write(x, text);
    }

    static int code(MindReaders x, String text) {
        page(x, text);
        return x.code();
    }

    static int note(MindReaders x, int thing, String row) {
        page(x, row);
        return x.note(thing);
    }

    static int means(MindReaders x, int code, String row) {
        page(x, row);
        return x.means(code);
    }

    static int named(MindReaders x, int code, String row) {
        page(x, row);
        return x.named(code);
    }

    static void things(MindReaders x, int... weights) {
        for (int weight : weights) {
            x.thing(weight);
        }
    }

    /** An object with a code and things. */
    static MindReaders with(String code, int... weights) {
        MindReaders x = new MindReaders();
        code(x, code);
        things(x, weights);
        return x;
    }

    /** One with a SIGNAL of each kind: a WORD 1s, b PAUSE 2s, c TONED of b 3s, d EMPTY 4s, e MENDING 5s; ODD 0 to 4. */
    static MindReaders withKinds() {
        MindReaders x = new MindReaders();
        x.signal(0, -1, 1, 0);
        x.signal(1, -1, 2, 1);
        x.signal(2, 1, 3, 2);
        x.signal(3, -1, 4, 3);
        x.signal(4, -1, 5, 4);
        return x;
    }

    static void end(String test) {
        System.out.println(test + ": " + checked + " checked, " + wrong + " wrong");
        if (wrong != 0) {
            System.exit(1);
        }
    }
}
