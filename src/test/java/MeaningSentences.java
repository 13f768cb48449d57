/** The sentences of promises 12 to 22: what rows mean, and how good a code is; one test for each. */
final class MeaningSentences extends Sentence {
    /** Texts that are no row of letters a to h. */
    private static final String[] NO_ROWS = {",", "a,b", "i", "`", "A", "b a", "abi", "~", times('a', 47) + "i", times('z', 48)};

    static void all() {
        means();
        clear();
        starts();
        twice();
        mean();
        oddness();
        dealt();
        shortest();
        apart();
        named();
        right();
    }

    /** With this row on THE PAGE. */
    private static MindReaders heard(String code, String row) {
        MindReaders x = kindsWith(code, 3, 4);
        Check.page(x, row);
        return x;
    }

    // ---- 12: means

    private static void isMeant(String code, String row, int due) {
        asked("\"" + row + "\" by " + code, due, () -> heard(code, row), x -> x.means(0));
    }

    private static void means() {
        of(12, "What THE PAGE, as a row of letters a to h, MEANS;");
        isMeant("h,ab,cb,ba", "ba", 3);
        isMeant("h,ab,cb,ba", "h", 0);
        isMeant("h,ab,cb,bbb", "bbdbae", 2);
        isMeant("ccccb,a", times('c', 19) + times('e', 29), 0);
        isMeant("a,ccccb", times('c', 19) + times('e', 29), 1);
        isMeant("a,d", times('d', 48), 1);
        isMeant("a,d", times('c', 16) + times('e', 32), 1);
        due("a whole page of TONED", heard("ccccc", times('c', 48)).means(0), NONE);
        due("by the last CODE", meansByLast(), 1);

        of(12, "NONE.");
        isMeant("ab", "a", NONE);
        isMeant("ab", "abb", NONE);
        isMeant("ab", "bb", NONE);
        isMeant("ab,d", "a", NONE);
        isMeant("c", "b", NONE);

        of(12, "UNKNOWN: code;");
        for (int code : beyond(2)) {
            asked("means(" + code + ")", UNKNOWN, () -> busy("b"), x -> x.means(code));
            asked("means(" + code + ") ahead of STATE", UNKNOWN, () -> busy("a,"), x -> x.means(code));
        }

        of(12, "STATE: THE PAGE is no such row (it may be empty).");
        for (String text : NO_ROWS) {
            asked("\"" + text + "\"", STATE, () -> busy(text), x -> x.means(0));
        }
        isMeant("a,ae,d", "", 1);
        isMeant("a,b", "", NONE);
    }

    private static int meansByLast() {
        MindReaders x = full("a");
        return x.means(3);
    }

    // ---- 13 to 15: clear, starts, twice

    private static void isClear(String code, int whether, int first, int other) {
        int[] due = {whether, first, other};
        for (int what = 0; what <= 2; what++) {
            int told = what;
            asked("clear(0, " + what + ") of " + code, due[what], () -> kindsWith(code, 1), x -> x.clear(0, told));
        }
    }

    private static void clear() {
        of(13, "CLEAR: what = 0 whether it is (1, 0),");
        isClear("a", 1, NONE, NONE);
        isClear("d", 1, NONE, NONE);
        isClear("a,b,ab,h,hh,c,ca,ac", 1, NONE, NONE);
        isClear("a,b,ab,h,hh,c,ca,bb", 0, 5, 7);

        of(13, "1, 2 the pair (NONE).");
        isClear("a,a", 0, 0, 1);
        isClear("a,b,b,a", 0, 0, 3);
        isClear("b,c,a,bb,a", 0, 1, 3);
        isClear("a,d,e,ae", 0, 1, 2);
        isClear("a,b,c,f,g,h,ab,abe", 0, 0, 7);
        isClear("a,b,c,f,g,h,ab,abd", 0, 6, 7);

        of(13, "UNKNOWN;");
        for (int code : beyond(2)) {
            asked("clear(" + code + ", 0)", UNKNOWN, () -> busy(""), x -> x.clear(code, 0));
            asked("clear(" + code + ", 3)", UNKNOWN, () -> busy(""), x -> x.clear(code, 3));
        }

        of(13, "OUTSIDE.");
        for (int what : outside(0, 2)) {
            asked("clear(0, " + what + ")", OUTSIDE, () -> busy(""), x -> x.clear(0, what));
            asked("clear(1, " + what + ")", OUTSIDE, () -> busy(""), x -> x.clear(1, what));
        }
    }

    private static void isStart(String code, int first, int other) {
        asked("starts(0, 0) of " + code, first, () -> kindsWith(code, 1), x -> x.starts(0, 0));
        asked("starts(0, 1) of " + code, other, () -> kindsWith(code, 1), x -> x.starts(0, 1));
    }

    private static void starts() {
        of(14, "STARTS: what = 0 the first one, 1 the other one;");
        isStart("a,ab", 0, 1);
        isStart("ab,a", 1, 0);
        isStart("bbb,c", 1, 0);
        isStart("ab,b,f,ff,a,bb", 1, 5);
        isStart("h,g,f,ba,bb,a,ab,d", 5, 6);
        isStart("gh,f,ba,bb,a,hh,ag,g", 4, 6);
        isStart("gh,f,ba,bb,a,hh,cc,g", 3, 6);
        isStart("gh,f,ba,aa,ab,hh,ca,g", 7, 0);
        isStart("a,ba,ca,f,g,h,cg,gf", 4, 7);
        isStart("a,ba,ca,f,g,h,cg,hf", 5, 7);

        of(14, "NONE: there is no such pair.");
        isStart("a", NONE, NONE);
        isStart("d", NONE, NONE);
        isStart("a,a", NONE, NONE);
        isStart("d,e,ae", NONE, NONE);
        isStart("ab,b,af", NONE, NONE);
        isStart("a,ba,ca,f,g,h,cg,bf", NONE, NONE);

        of(14, "UNKNOWN;");
        for (int code : beyond(2)) {
            asked("starts(" + code + ", 0)", UNKNOWN, () -> busy(""), x -> x.starts(code, 0));
            asked("starts(" + code + ", 2)", UNKNOWN, () -> busy(""), x -> x.starts(code, 2));
        }

        of(14, "OUTSIDE.");
        for (int what : outside(0, 1)) {
            asked("starts(0, " + what + ")", OUTSIDE, () -> busy(""), x -> x.starts(0, what));
            asked("starts(1, " + what + ")", OUTSIDE, () -> busy(""), x -> x.starts(1, what));
        }
    }

    private static void isTwice(String code, int due) {
        asked("twice(0) of " + code, due, () -> kindsWith(code, 1), x -> x.twice(0));
    }

    private static void twice() {
        of(15, "TWICE;");
        isTwice("a,a", 1);
        isTwice("a,aa", 2);
        isTwice("a,ab,b", 2);
        isTwice("aa,aaa", 5);
        isTwice("aaaa,aaaaa", 9);
        isTwice("aaa,a", 3);
        isTwice("aa,aba,abaa,bab", 11);
        isTwice("baaab,aab,aa,aba", 13);
        isTwice("ab,abb,bab", 5);
        isTwice("a,ba,ab", 3);
        isTwice("b,c", 2);
        isTwice("aabb,abbaa,baab,aab,aba", 7);
        isTwice("ab,a,fg,bf,gh,hab", 7);
        isTwice("g,f,h,a,b,c,ag,ga", 2);
        isTwice("ab,bf,fg,gh,ha,a,b,f", 2);

        of(15, "NONE: no row can be read in two ways.");
        isTwice("a", NONE);
        isTwice("d", NONE);
        isTwice("d,e", NONE);
        isTwice("a,d", NONE);
        isTwice("a,ab", NONE);
        isTwice("a,ab,bb", NONE);
        isTwice("a,b,c,f", 2);
        isTwice("a,b,f,g,h", NONE);
        isTwice("a,afg,gfgf,fgg,gff", NONE);

        of(15, "UNKNOWN.");
        for (int code : beyond(2)) {
            asked("twice(" + code + ")", UNKNOWN, () -> busy(""), x -> x.twice(code));
        }
    }

    // ---- 16 to 19: lengths

    private static void isMean(Made made, int above, int below) {
        asked("mean(0, 0)", above, made, x -> x.mean(0, 0));
        asked("mean(0, 1)", below, made, x -> x.mean(0, 1));
    }

    private static void mean() {
        of(16, "MEAN, in lowest terms: part 0 above, 1 below.");
        isMean(() -> kindsWith("a,bb,ce", 10), 1, 1);
        isMean(() -> kindsWith("a,bb,ce", 10, 5, 3), 3, 1);
        isMean(() -> kindsWith("a,bb,ce", 10, 7, 3), 31, 10);
        isMean(() -> kindsWith("a,bb,ce", 10, 7, 3, 99), 31, 10);
        isMean(() -> longest(99), 45, 1);
        isMean(() -> longest(1), 45, 1);
        isMean(() -> kindsWith("eeeee,a", 98, 99), 2549, 197);

        of(16, "UNKNOWN;");
        for (int code : beyond(2)) {
            asked("mean(" + code + ", 0)", UNKNOWN, () -> busy(""), x -> x.mean(code, 0));
            asked("mean(" + code + ", 2)", UNKNOWN, () -> busy(""), x -> x.mean(code, 2));
            asked("mean(" + code + ", 0) of no THINGS", UNKNOWN, MindReaders::new, x -> x.mean(code, 0));
        }

        of(16, "OUTSIDE;");
        for (int part : outside(0, 1)) {
            asked("mean(0, " + part + ")", OUTSIDE, () -> busy(""), x -> x.mean(0, part));
            asked("mean(0, " + part + ") of no THINGS", OUTSIDE, () -> kindsWith("a"), x -> x.mean(0, part));
        }

        of(16, "STATE: it SAYS no THING that there is.");
        asked("mean(0, 0)", STATE, () -> kindsWith("a,b"), x -> x.mean(0, 0));
        asked("mean(0, 1)", STATE, () -> kindsWith("a,b"), x -> x.mean(0, 1));
        due("once there is one", kindsWith("a,b", 1).mean(0, 0), 1);
    }

    /** Eight SPEECHES, as long and as odd as can be, of eight THINGS of this WEIGHT. */
    private static MindReaders longest(int weight) {
        MindReaders x = Check.with("aaaaa,aaaaa,aaaaa,aaaaa,aaaaa,aaaaa,aaaaa,aaaaa");
        x.signal(0, NONE, 9, 9);
        for (int i = 0; i < 8; i++) {
            x.thing(weight);
        }
        return x;
    }

    private static void oddness() {
        of(17, "ODDNESS.");
        asked("no THINGS", 0, () -> kindsWith("a,bb,ceeh"), x -> x.oddness(0));
        asked("one THING", 10 * 4, () -> kindsWith("e,bb,ceeh", 10), x -> x.oddness(0));
        asked("all THINGS", 5 * 2 + 3 * 10, () -> kindsWith("a,bb,ceeh", 10, 5, 3), x -> x.oddness(0));
        asked("more THINGS", 5 * 2 + 3 * 10, () -> kindsWith("a,bb,ceeh", 10, 5, 3, 99), x -> x.oddness(0));
        asked("the most", 8 * 99 * 45, () -> longest(99), x -> x.oddness(0));

        of(17, "UNKNOWN.");
        for (int code : beyond(2)) {
            asked("oddness(" + code + ")", UNKNOWN, () -> busy(""), x -> x.oddness(code));
        }
    }

    private static void isDealt(Made made, int above, int below, int... speeches) {
        asked("dealt(0, 0)", above, made, x -> x.dealt(0, 0));
        asked("dealt(0, 1)", below, made, x -> x.dealt(0, 1));
        for (int i = 0; i < 8; i++) {
            int what = 10 + i;
            asked("dealt(0, " + what + ")", i < speeches.length ? speeches[i] : NONE, made, x -> x.dealt(0, what));
        }
    }

    private static void dealt() {
        of(18, "DEALT anew: what = 0, 1 MEAN then, in lowest terms (above, below), 10 and i the SPEECH for THING i (NONE: it is not "
            + "SAID).");
        isDealt(() -> kindsWith("ccc,c,cc,a", 5, 20, 50), 21, 5, 0, 2, 1);
        isDealt(() -> Check.with("aaa,a,aa,bb", 5, 9, 9), 42, 23, 0, 1, 2);
        isDealt(() -> Check.with("aaa,a,aa,bb", 5, 9, 9, 5), 13, 7, 3, 1, 2, 0);
        isDealt(() -> Check.with("aaa,a,aa,bb", 5, 9, 9, 5, 99), 13, 7, 3, 1, 2, 0);
        isDealt(() -> Check.with("abc", 7), 3, 1, 0);
        isDealt(() -> longest(99), 45, 1, 0, 1, 2, 3, 4, 5, 6, 7);
        isDealt(() -> Check.with("aaaa,bbb,cc,d,hhhhh,ggg,ff,e", 8, 7, 6, 5, 4, 3, 2, 1), 71, 36, 3, 7, 2, 6, 1, 5, 0, 4);

        of(18, "UNKNOWN;");
        for (int code : beyond(2)) {
            asked("dealt(" + code + ", 0)", UNKNOWN, () -> busy(""), x -> x.dealt(code, 0));
            asked("dealt(" + code + ", 10)", UNKNOWN, () -> busy(""), x -> x.dealt(code, 10));
            asked("dealt(" + code + ", 2)", UNKNOWN, () -> busy(""), x -> x.dealt(code, 2));
            asked("dealt(" + code + ", 0) of no THINGS", UNKNOWN, MindReaders::new, x -> x.dealt(code, 0));
        }

        of(18, "OUTSIDE: what (10 to 17 else);");
        for (int what : new int[] {-1, 2, 3, 8, 9, 18, 19, MIN, MAX}) {
            asked("dealt(0, " + what + ")", OUTSIDE, () -> busy(""), x -> x.dealt(0, what));
            asked("dealt(0, " + what + ") of no THINGS", OUTSIDE, () -> kindsWith("a"), x -> x.dealt(0, what));
        }

        of(18, "STATE, as mean().");
        for (int what : new int[] {0, 1, 10, 17}) {
            asked("dealt(0, " + what + ")", STATE, () -> kindsWith("a,b"), x -> x.dealt(0, what));
        }
    }

    private static void isShort(int r, int above, int below, int... weights) {
        asked("shortest(" + r + ", 0)", above, () -> kindsWith("a", weights), x -> x.shortest(r, 0));
        asked("shortest(" + r + ", 1)", below, () -> kindsWith("a", weights), x -> x.shortest(r, 1));
    }

    private static void shortest() {
        of(19, "SHORT, in lowest terms.");
        int[][] eight = {{2, 3, 1}, {3, 2, 1}, {4, 7, 4}, {5, 3, 2}, {6, 11, 8}, {7, 5, 4}, {8, 1, 1}};
        for (int[] due : eight) {
            isShort(due[0], due[1], due[2], 1, 1, 1, 1, 1, 1, 1, 1);
            isShort(due[0], due[1], due[2], 99, 99, 99, 99, 99, 99, 99, 99);
            isShort(due[0], 0, 1, 7);
            isShort(due[0], 1, 1, 1, 99);
        }
        isShort(2, 22, 9, 1, 1, 2, 3, 5, 8, 13, 21);
        isShort(2, 3, 2, 2, 1, 1);
        isShort(3, 8, 7, 40, 20, 7, 3);
        isShort(2, 11, 7, 40, 20, 7, 3);

        of(19, "STATE: there are no THINGS;");
        for (int r = 2; r <= 8; r++) {
            int told = r;
            asked("shortest(" + r + ", 0)", STATE, () -> kindsWith("a,b"), x -> x.shortest(told, 0));
            asked("shortest(" + r + ", 1)", STATE, MindReaders::new, x -> x.shortest(told, 1));
        }

        of(19, "OUTSIDE, ahead: r, part.");
        for (int r : outside(2, 8)) {
            asked("shortest(" + r + ", 0)", OUTSIDE, () -> busy(""), x -> x.shortest(r, 0));
            asked("shortest(" + r + ", 0) of no THINGS", OUTSIDE, MindReaders::new, x -> x.shortest(r, 0));
        }
        for (int part : outside(0, 1)) {
            asked("shortest(2, " + part + ")", OUTSIDE, () -> busy(""), x -> x.shortest(2, part));
            asked("shortest(8, " + part + ") of no THINGS", OUTSIDE, MindReaders::new, x -> x.shortest(8, part));
        }
    }

    // ---- 20 to 22: through noise

    private static void isApart(String code, int due) {
        asked("apart(0) of " + code, due, () -> kindsWith(code, 1), x -> x.apart(0));
    }

    private static void apart() {
        of(20, "APART;");
        isApart("a,b", 1);
        isApart("a,a", 0);
        isApart("ab,ba", 2);
        isApart("aaa,bbb,abb", 1);
        isApart("c,bb", 0);
        isApart("d,e", 0);
        isApart("ccccc,bbbbb", NONE);
        isApart("ccccc,ccccc", 0);
        isApart("ccc,fcfc,cffc", 2);
        isApart("aaaaa,bbbbb,fffff,ggggg,hhhhh,abfgh,bfgha,ffghh", 2);

        of(20, "NONE: they are of unlike lengths, or fewer than two.");
        isApart("a", NONE);
        isApart("d", NONE);
        isApart("a,ab", NONE);
        isApart("ab,a", NONE);
        isApart("a,b,f,g,h,a,b,d", NONE);
        isApart("d,a,b,f,g,h,a,b", NONE);
        isApart("c,b", NONE);

        of(20, "UNKNOWN.");
        for (int code : beyond(2)) {
            asked("apart(" + code + ")", UNKNOWN, () -> busy(""), x -> x.apart(code));
        }
    }

    private static void isNamed(String code, String row, int due) {
        asked("\"" + row + "\" by " + code, due, () -> heard(code, row), x -> x.named(0));
    }

    private static void named() {
        String code = "aaa,bbb,ab,ffa,d,bcd";
        of(21, "What is NAMED by THE PAGE as a row of letters a to h;");
        isNamed(code, "bbb", 1);
        isNamed(code, "baa", 0);
        isNamed(code, "fbh", 1);
        isNamed(code, "ffh", 3);
        isNamed(code, "hhh", 0);
        isNamed(code, "hh", 2);
        isNamed("a,ccccb", times('c', 19) + times('e', 29), 1);
        isNamed("a,bbbbb,ccccb", times('c', 19) + times('e', 29), 2);

        of(21, "NONE: no SPEECH has that length.");
        isNamed(code, "a", NONE);
        isNamed(code, "cbac", NONE);
        isNamed("a", "", NONE);
        isNamed("ccccc", times('c', 48), NONE);
        isNamed("ccccc", times('a', 11), NONE);
        isNamed("ccccc", times('a', 10), 0);

        of(21, "UNKNOWN: code;");
        for (int told : beyond(2)) {
            asked("named(" + told + ")", UNKNOWN, () -> busy("b"), x -> x.named(told));
            asked("named(" + told + ") ahead of STATE", UNKNOWN, () -> busy("a,"), x -> x.named(told));
        }

        of(21, "STATE, as means().");
        for (String text : NO_ROWS) {
            asked("\"" + text + "\"", STATE, () -> busy(text), x -> x.named(0));
        }
        isNamed(code, "", 4);
        isNamed(code, times('d', 48), 4);
    }

    private static void isRight(String code, int thing, int r, int e, long above, long below) {
        String call = "RIGHT of " + thing + " of " + code + ", r = " + r + ", e = " + e;
        Made made = () -> kindsWith(code, 1, 1, 1, 1);
        asked(call + ", above", above, made, x -> x.right(0, thing, r, e, 0));
        asked(call + ", below", below, made, x -> x.right(0, thing, r, e, 1));
    }

    private static void right() {
        of(22, "RIGHT, in lowest terms.");
        isRight("a", 0, 2, 0, 1, 1);
        isRight("a", 0, 8, 10, 1, 1);
        isRight("a,b", 0, 2, 10, 0, 1);
        isRight("a,b", 0, 8, 10, 6, 7);
        isRight("a,b", 1, 8, 10, 0, 1);
        isRight("ab,ab", 1, 2, 3, 0, 1);
        isRight("aaa,bbb", 1, 2, 1, 243, 250);
        isRight("aa,bb", 1, 2, 1, 81, 100);
        isRight("d,a", 0, 2, 5, 1, 1);
        isRight("a,d,e", 2, 2, 5, 0, 1);
        isRight("c,ba", 0, 2, 1, 9, 10);
        isRight("aaaa,bbbb,abab", 0, 8, 1, 11971719, 12005000);
        isRight("hhhh,gggg,ffff", 2, 8, 10, 0, 1);
        isRight("a,b,f,g,h", 1, 8, 3, 7, 10);

        of(22, "UNKNOWN: code, thing (one that it does not SAY, too);");
        for (int code : beyond(2)) {
            asked("right(" + code + ", 0, 8, 1, 0)", UNKNOWN, () -> busy(""), x -> x.right(code, 0, 8, 1, 0));
            asked("right(" + code + ", 0, 1, 1, 0)", UNKNOWN, () -> busy(""), x -> x.right(code, 0, 1, 1, 0));
        }
        for (int thing : beyond(3)) {
            asked("right(0, " + thing + ", 8, 1, 0)", UNKNOWN, () -> busy(""), x -> x.right(0, thing, 8, 1, 0));
            asked("right(0, " + thing + ", 9, 11, 2)", UNKNOWN, () -> busy(""), x -> x.right(0, thing, 9, 11, 2));
        }
        asked("not SAID", UNKNOWN, () -> busy(""), x -> x.right(1, 2, 8, 1, 0));
        asked("not SAID, ahead of OUTSIDE", UNKNOWN, () -> busy(""), x -> x.right(1, 2, 9, 1, 0));
        asked("the last SAID", 1, () -> busy(""), x -> x.right(1, 1, 8, 0, 0));
        rightRefused();
    }

    private static void rightRefused() {
        of(22, "OUTSIDE: r, e, part;");
        for (int r : outside(2, 8)) {
            asked("r = " + r, OUTSIDE, () -> busy(""), x -> x.right(0, 1, r, 1, 0));
            asked("r = " + r + " ahead of STATE", OUTSIDE, () -> kindsWith("ccc", 1), x -> x.right(0, 0, r, 1, 0));
        }
        for (int e : outside(0, 10)) {
            asked("e = " + e, OUTSIDE, () -> busy(""), x -> x.right(0, 1, 8, e, 0));
            asked("e = " + e + " ahead of STATE", OUTSIDE, () -> kindsWith("ccc", 1), x -> x.right(0, 0, 8, e, 0));
        }
        for (int part : outside(0, 1)) {
            asked("part = " + part, OUTSIDE, () -> busy(""), x -> x.right(0, 1, 8, 1, part));
            asked("part = " + part + " ahead of STATE", OUTSIDE, () -> kindsWith("ccc", 1), x -> x.right(0, 0, 8, 1, part));
        }

        of(22, "STATE: a SIGNAL of its SPEECH, PLAIN, is not among the r, or there are more than 4.");
        String[] letters = {"a", "b", "f", "g", "h"};
        int[] among = {2, 2, 6, 7, 8};
        for (int i = 0; i < letters.length; i++) {
            for (int r = 2; r <= 8; r++) {
                int told = r;
                String code = letters[i];
                int due = r < among[i] ? STATE : 1;
                asked(code + " among " + r, due, () -> kindsWith(code, 1), x -> x.right(0, 0, told, 5, 0));
            }
        }
        isRight("bbbb,c", 0, 2, 0, 1, 1);
        isRight("cc,a", 0, 2, 0, 1, 1);
        isRight("ccdea,a", 0, 2, 0, 1, 1);
        for (String code : new String[] {"bbbbb", "ccb", "ccc", "ccccc", "bacbd", "fg,a", "abf", "fffff"}) {
            asked(code, STATE, () -> kindsWith(code, 1), x -> x.right(0, 0, 2, 0, 0));
        }
    }
}
