/** The sentences of promises 23 to 32: notes, what they let be, changes, luck and stopped signals; one test for each. */
final class LookerSentences extends Sentence {
    static void all() {
        note();
        forget();
        which();
        step();
        seen();
        change();
        cheapest();
        luck();
        left();
        stop();
    }

    // ---- 23 to 25: notes

    private static void note() {
        of(23, "THE PAGE is a row that was said for a THING: how many NOTES;");
        for (int had = 0; had < 10; had++) {
            due("behind " + had, withNotes(had, "a").note(1), had + 1);
        }
        for (int letters = 0; letters <= 8; letters++) {
            due(letters + " letters", withNotes(2, times('h', letters)).note(0), 3);
        }
        MindReaders x = withNotes(0, "bd");
        x.note(1);
        due("it is for the THING told", x.which(), 1);
        x = withNotes(0, "bd");
        x.note(0);
        due("and for no other one", x.which(), 0);

        of(23, "THE PAGE is empty then.");
        x = withNotes(0, "abcdefgh");
        x.note(0);
        due("letters of THE PAGE", x.count(4), 0);
        due("the next row is that which comes then", x.letters(98), 1);

        of(23, "UNKNOWN: thing;");
        for (int thing : beyond(3)) {
            asked("note(" + thing + ")", UNKNOWN, () -> busy("a"), y -> y.note(thing));
            asked("note(" + thing + ") ahead of STATE", UNKNOWN, () -> busy("a,"), y -> y.note(thing));
            asked("note(" + thing + ") of 9 letters", UNKNOWN, () -> busy("abcdefgha"), y -> y.note(thing));
        }
        asked("note(8) ahead of FULL", UNKNOWN, () -> full("a"), y -> y.note(8));

        of(23, "STATE, as means(), or it has more than 8 letters;");
        String[] texts = {",", "a,b", "i", "`", "A", "b a", "abi", "abcdefgi", "abcdefgha", times('d', 9), times('a', 48)};
        for (String text : texts) {
            asked("\"" + text + "\"", STATE, () -> busy(text), y -> y.note(0));
            asked("\"" + text + "\" ahead of FULL", STATE, () -> full(text), y -> y.note(0));
        }

        of(23, "FULL.");
        for (String text : new String[] {"", "a", "abcdefgh"}) {
            asked("\"" + text + "\"", FULL, () -> full(text), y -> y.note(0));
        }
    }

    private static void forget() {
        of(24, "All NOTES are gone: how many there were.");
        for (int had = 0; had <= 10; had++) {
            MindReaders x = withNotes(had, "ab");
            due("forget() of " + had, x.forget(), had);
            due("how many then", x.count(3), 0);
            due("THE PAGE stays", x.count(4), 2);
            due("THINGS stay", x.count(1), 2);
            due("forget() again", x.forget(), 0);
            due("they begin anew", Check.note(x, 1, "b"), 1);
            due("with that one alone", x.which(), 1);
        }
    }

    private static MindReaders fourCodes() {
        MindReaders x = kindsWith("a,b", 1, 1, 1);
        Check.code(x, "b,a");
        Check.code(x, "a");
        Check.code(x, "ad,bde,b");
        return x;
    }

    private static void which() {
        of(25, "WHICH, as bits of CODES.");
        asked("no CODES", 0, MindReaders::new, x -> x.which());
        asked("no NOTES", 15, LookerSentences::fourCodes, x -> x.which());
        int[][] thingAndBits = {{0, 13, 2, 0}, {1, 2, 1, 8}, {2, 0, 8, 0}};
        String[] rows = {"a", "b", "ae"};
        for (int[] due : thingAndBits) {
            for (int i = 0; i < rows.length; i++) {
                MindReaders x = fourCodes();
                Check.note(x, due[0], rows[i]);
                due("THING " + due[0] + " by \"" + rows[i] + "\"", x.which(), due[1 + i]);
            }
        }
        MindReaders x = fourCodes();
        Check.note(x, 0, "abe");
        due("PLAIN", x.which(), 13);
        Check.note(x, 1, "b");
        due("each row, and what a CODE does not SAY is by none", x.which(), 1);
        Check.note(x, 0, "b");
        due("all of them at once", x.which(), 0);
        asked("a CODE more than the bits of three", 8, LookerSentences::lastAlone, y -> y.which());
    }

    private static MindReaders lastAlone() {
        MindReaders x = fourCodes();
        Check.note(x, 2, "b");
        return x;
    }

    // ---- 26: step

    private static void isStep(Made made, int week, int due) {
        asked("WEEK " + week, due, made, x -> x.step(0, week));
    }

    private static void step() {
        of(26, "STEP;");
        String eight = "a,b,c,d,e,f,g,h";
        for (int k = 0; k <= 7; k++) {
            String row = eight.substring(2 * k, 2 * k + 1);
            isStep(() -> noted(eight, 8, 0, row), 1, k);
            isStep(() -> noted(eight, 8, 0, row), 97, k);
            isStep(() -> noted(eight, 8, 0, row), 99, 3 * k % 8);
        }
        isStep(() -> kindsWith("a,b", 1, 1), 5, 0);
        isStep(() -> noted("a,a", 2, 1, "a"), 1, 0);
        isStep(() -> noted("a,b,c,d,e", 4, 0, "d"), 3, 1);
        isStep(() -> noted("a,b,c", 3, 1, "a"), 1, 2);
        isStep(() -> noted("a,b,c", 2, 1, "a"), 1, 1);
        asked("of the last CODE", 1, LookerSentences::lastCode, x -> x.step(3, 1));

        of(26, "NONE.");
        isStep(() -> noted("a,b", 1, 0, "b"), 1, NONE);
        isStep(() -> noted("a,b", 2, 0, "b"), 0, NONE);
        isStep(() -> noted("a,b", 2, 0, "b"), 2, NONE);
        isStep(() -> noted("a,b", 2, 0, "b"), 98, NONE);
        isStep(() -> noted("a,b", 2, 0, "c"), 1, NONE);
        isStep(() -> noted("a,b", 3, 2, "a"), 1, NONE);
        isStep(() -> noted("a", 1, 0, ""), 1, NONE);
        isStep(() -> twoNotes("a", "a"), 1, NONE);
        isStep(() -> twoNotes("b", "a"), 1, 1);
        stepRefused();
    }

    private static MindReaders twoNotes(String first, String second) {
        MindReaders x = noted("a,b", 2, 0, first);
        Check.note(x, 1, second);
        return x;
    }

    private static MindReaders lastCode() {
        MindReaders x = fourCodes();
        Check.note(x, 0, "ae");
        return x;
    }

    private static void stepRefused() {
        of(26, "UNKNOWN: code;");
        for (int code : beyond(2)) {
            asked("step(" + code + ", 0)", UNKNOWN, () -> busy(""), x -> x.step(code, 0));
            asked("step(" + code + ", 100)", UNKNOWN, () -> busy(""), x -> x.step(code, 100));
            asked("step(" + code + ", 0) of no THINGS", UNKNOWN, MindReaders::new, x -> x.step(code, 0));
        }

        of(26, "OUTSIDE: week (0 to 99);");
        for (int week : outside(0, 99)) {
            asked("step(0, " + week + ")", OUTSIDE, () -> busy(""), x -> x.step(0, week));
            asked("step(0, " + week + ") of no THINGS", OUTSIDE, () -> kindsWith("a"), x -> x.step(0, week));
        }
        due("WEEK 0", kindsWith("a", 1).step(0, 0), 0);
        due("WEEK 99", kindsWith("a", 1).step(0, 99), 0);

        of(26, "STATE: it SAYS no THING that there is.");
        for (int week = 0; week <= 99; week += 33) {
            int told = week;
            asked("step(0, " + week + ")", STATE, () -> kindsWith("a,b"), x -> x.step(0, told));
        }
    }

    // ---- 27 to 30: chances and changes

    private static void isSeen(int n, long above, long below, int... weights) {
        asked("seen(" + n + ", 0)", above, () -> kindsWith("a", weights), x -> x.seen(n, 0));
        asked("seen(" + n + ", 1)", below, () -> kindsWith("a", weights), x -> x.seen(n, 1));
    }

    private static void seen() {
        of(27, "ALL SEEN, in lowest terms.");
        for (int n = 1; n <= 6; n++) {
            isSeen(n, 1, 1, 99);
            isSeen(n, 0, 1, 99, 99, 99, 99, 99, 99, 99);
            isSeen(n, 0, 1, 99, 99, 99, 99, 99, 99, 99, 99);
            isSeen(n, (1 << n - 1) - 1, 1 << n - 1, 99, 99);
        }
        isSeen(2, 3, 8, 1, 3);
        isSeen(3, 2, 9, 1, 1, 1);
        isSeen(5, 0, 1, 99, 99, 99, 99, 99, 99);
        isSeen(6, 5, 324, 99, 99, 99, 99, 99, 99);
        isSeen(6, 139635300, 2073071593, 1, 23, 49);
        isSeen(6, 1683, 2048, 3, 9);
        isSeen(6, 720L * 99 * 98 * 97 * 97 * 50 * 2, 443L * 443 * 443 * 443 * 443 * 443, 99, 98, 97, 97, 50, 2);

        of(27, "OUTSIDE: n, part;");
        for (int n : outside(1, 6)) {
            asked("seen(" + n + ", 0)", OUTSIDE, () -> busy(""), x -> x.seen(n, 0));
            asked("seen(" + n + ", 0) of no THINGS", OUTSIDE, MindReaders::new, x -> x.seen(n, 0));
        }
        for (int part : outside(0, 1)) {
            asked("seen(1, " + part + ")", OUTSIDE, () -> busy(""), x -> x.seen(1, part));
            asked("seen(6, " + part + ") of no THINGS", OUTSIDE, MindReaders::new, x -> x.seen(6, part));
        }

        of(27, "STATE: there are no THINGS.");
        for (int n = 1; n <= 6; n++) {
            int told = n;
            asked("seen(" + n + ", 0)", STATE, () -> kindsWith("a,b"), x -> x.seen(told, 0));
            asked("seen(" + n + ", 1)", STATE, MindReaders::new, x -> x.seen(told, 1));
        }
    }

    private static MindReaders changed(String from, String to) {
        MindReaders x = kindsWith(from, 1);
        Check.code(x, to);
        return x;
    }

    private static void isChange(String from, String to, int due) {
        asked("from " + from + " to " + to, due, () -> changed(from, to), x -> x.change(0, 1));
        asked("from " + to + " to itself", 0, () -> changed(from, to), x -> x.change(1, 1));
    }

    private static void change() {
        of(28, "CHANGE.");
        isChange("a,b,c", "a,b,c", 0);
        isChange("a,b,c", "a,bb", 4);
        isChange("a,bb", "a,b,c", 5);
        isChange("a,b,c", "a,b,c,ddd", 12);
        isChange("a,b,c,ddd", "a,b,c", 0);
        isChange("c", "bb", 4);
        isChange("ab", "ba", 3);
        isChange("a,b", "b,a", 3);
        isChange("a", "ad", 5);
        isChange("ad", "a", 1);
        isChange("h", "eeeee,eeeee,eeeee,eeeee,eeeee,eeeee,eeeee,eeeee", 200);

        of(28, "UNKNOWN: from, to.");
        for (int code : beyond(2)) {
            asked("change(" + code + ", 0)", UNKNOWN, () -> busy(""), x -> x.change(code, 0));
            asked("change(1, " + code + ")", UNKNOWN, () -> busy(""), x -> x.change(1, code));
            asked("change(" + code + ", " + code + ")", UNKNOWN, () -> busy(""), x -> x.change(code, code));
        }
        due("the last two", full("").change(3, 2), 0);
    }

    private static MindReaders three() {
        MindReaders x = kindsWith("a,b", 1);
        Check.code(x, "b,a");
        Check.code(x, "a,f");
        return x;
    }

    private static MindReaders like() {
        MindReaders x = kindsWith("b,b", 1);
        Check.code(x, "a,c");
        Check.code(x, "a,c");
        Check.code(x, "a,cd");
        return x;
    }

    private static void cheapest() {
        of(29, "CHEAPEST;");
        int[] due = {2, 2, 0};
        int[] dueOfLike = {1, 2, 1, 1};
        for (int code = 0; code < 4; code++) {
            int told = code;
            if (code < 3) {
                asked("cheapest(" + code + ") of three", due[code], LookerSentences::three, x -> x.cheapest(told));
            }
            asked("cheapest(" + code + ") of like ones", dueOfLike[code], LookerSentences::like, x -> x.cheapest(told));
        }
        asked("the dearest there is", 1, () -> changed("h", "eeeee,eeeee,eeeee,eeeee,eeeee,eeeee,eeeee,eeeee"), x -> x.cheapest(0));

        of(29, "NONE: there is no other one.");
        asked("cheapest(0)", NONE, () -> kindsWith("a,b", 1), x -> x.cheapest(0));

        of(29, "UNKNOWN.");
        for (int code : beyond(2)) {
            asked("cheapest(" + code + ")", UNKNOWN, () -> busy(""), x -> x.cheapest(code));
        }
    }

    private static void isLuck(int n, int k, int r, long above, long below) {
        asked("luck(" + n + ", " + k + ", " + r + ", 0)", above, () -> busy(""), x -> x.luck(n, k, r, 0));
        asked("luck(" + n + ", " + k + ", " + r + ", 1)", below, MindReaders::new, x -> x.luck(n, k, r, 1));
    }

    private static void luck() {
        of(30, "LUCK, in lowest terms.");
        for (int n = 1; n <= 12; n++) {
            isLuck(n, 2, 0, 1, 1);
            isLuck(n, 9, 0, 1, 1);
            isLuck(n, 2, n, 1, 1L << n);
            isLuck(n, 4, n, 1, 1L << 2 * n);
            isLuck(n, 2, 1, (1L << n) - 1, 1L << n);
        }
        isLuck(3, 2, 2, 1, 2);
        isLuck(2, 3, 1, 5, 9);
        isLuck(12, 9, 12, 1, 282429536481L);
        isLuck(12, 9, 1, 213710059745L, 282429536481L);
        isLuck(12, 2, 6, 1255, 2048);
        isLuck(12, 5, 6, 4737617, 244140625);

        of(30, "OUTSIDE: n, k, r (0 to n), part.");
        for (int n : outside(1, 12)) {
            asked("n = " + n, OUTSIDE, () -> busy(""), x -> x.luck(n, 2, 0, 0));
        }
        for (int k : outside(2, 9)) {
            asked("k = " + k, OUTSIDE, () -> busy(""), x -> x.luck(1, k, 0, 0));
        }
        for (int n = 1; n <= 12; n++) {
            int told = n;
            for (int r : outside(0, n)) {
                asked("n = " + n + ", r = " + r, OUTSIDE, () -> busy(""), x -> x.luck(told, 2, r, 0));
            }
        }
        for (int part : outside(0, 1)) {
            asked("part = " + part, OUTSIDE, () -> busy(""), x -> x.luck(12, 9, 12, part));
        }
    }

    // ---- 31 and 32: stopped signals

    private static void isLeft(String code, int stopped, int due) {
        asked("left(0, " + stopped + ") of " + code, due, () -> kindsWith(code, 1), x -> x.left(0, stopped));
    }

    private static void left() {
        of(31, "LEFT.");
        String eight = "a,b,f,g,h,aa,bb,ff";
        isLeft(eight, 0, 8);
        isLeft(eight, 1, 7);
        isLeft(eight, 3, 5);
        isLeft(eight, 128, 8);
        isLeft(eight, 127, 2);
        isLeft(eight, 4 + 8 + 16, 8);
        isLeft(eight, 255 - 4 - 8 - 16, 1);
        isLeft(eight, 255, 1);
        isLeft("a", 0, 1);
        isLeft("a", 1, 1);
        isLeft("ab,cb,ba,d,aeb", 0, 5);
        isLeft("ab,cb,ba,d,aeb", 2, 3);
        isLeft("ab,cb,ba,d,aeb", 16, 4);
        isLeft("h,hh,hhh,hhhh,hhhhh,h,hh,hhh", 128, 1);
        isLeft("h,hh,hhh,hhhh,hhhhh,h,hh,hhh", 127, 5);

        of(31, "UNKNOWN;");
        for (int code : beyond(2)) {
            asked("left(" + code + ", 0)", UNKNOWN, () -> busy(""), x -> x.left(code, 0));
            asked("left(" + code + ", 256)", UNKNOWN, () -> busy(""), x -> x.left(code, 256));
        }

        of(31, "OUTSIDE: stopped (0 to 255).");
        for (int stopped : outside(0, 255)) {
            asked("left(0, " + stopped + ")", OUTSIDE, () -> busy(""), x -> x.left(0, stopped));
        }
        due("0", busy("").left(1, 0), 2);
        due("255", busy("").left(1, 255), 1);
    }

    private static void isStop(String code, int due) {
        asked("stop(0) of " + code, due, () -> kindsWith(code, 1), x -> x.stop(0));
    }

    private static void stop() {
        of(32, "STOP, as bits.");
        isStop("a", 0);
        isStop("a,a", 0);
        isStop("c,bb", 0);
        isStop("a,d", 1);
        isStop("a,b", 3);
        isStop("ab,b", 1);
        isStop("ab,ac", 6);
        isStop("a,ae", 1);
        isStop("g,h", 192);
        isStop("h,d", 128);
        isStop("f,fh,fhh,fg", 192);
        isStop("ah,bh,fhg", 99);
        isStop("bf,c", 38);
        isStop("abh,hab", 128);
        isStop("abfgh,ghabf", 192);
        asked("all eight", 255, () -> Check.with("a,b,c,d,e,f,g,h"), x -> x.stop(0));
        asked("of like ones", 1, () -> Check.with("ab,ba"), x -> x.stop(0));

        of(32, "UNKNOWN.");
        for (int code : beyond(2)) {
            asked("stop(" + code + ")", UNKNOWN, () -> busy(""), x -> x.stop(code));
        }
    }
}
