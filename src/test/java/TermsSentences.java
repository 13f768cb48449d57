/** The sentences of "What it is" and "Terms", one test for each. */
final class TermsSentences extends Sentence {
    static void all() {
        calls();
        signals();
        plain();
        thingsAndCodes();
        alike();
        twice();
        lengths();
        dealt();
        apart();
        right();
        notes();
        weeks();
        changes();
        stopped();
        refusals();
    }

    private static void calls() {
        of(TERMS, "An object is used for at most 512 calls after it has been made; what later calls answer is free.");
        MindReaders x = new MindReaders();
        x.thing(7);
        for (int i = 1; i < 511; i++) {
            due("call " + (i + 1), i % 2 == 1 ? x.letters(97) : x.blank(), 1);
        }
        due("the 512th call", x.count(5), 7);
    }

    // ---- 1: signals

    private static void signals() {
        eightSignals();
        kinds();
        secondsAndOdd();
        toned();
        taken();
    }

    private static void eightSignals() {
        of(TERMS, "SIGNALS (8 at most, numbered, said as letters a to h)");
        MindReaders x = new MindReaders();
        for (int i = 0; i < 8; i++) {
            due("SIGNAL " + i, x.signal(0, NONE, i + 1, i), i);
        }
        due("a ninth", x.signal(0, NONE, 9, 9), FULL);
        due("eight", x.count(0), 8);
        Check.code(x, "a,b,c,d,e,f,g,h");
        for (int i = 0; i < 8; i++) {
            due("the letter of SIGNAL " + i, x.speech(0, i, 1), i);
            due("SECONDS of the letter of SIGNAL " + i, x.speech(0, i, 30), i + 1);
        }
        due("the sign behind h", Check.code(x, "i"), STATE);
        due("the sign ahead of a", Check.code(x, "`"), STATE);
        due("a large letter", Check.code(x, "A"), STATE);
    }

    private static void kinds() {
        of(TERMS, "are of KINDS: 0 WORD, 1 PAUSE, 2 TONED, 3 EMPTY, 4 MENDING,");
        MindReaders x = Check.withKinds();
        for (int kind = 0; kind <= 4; kind++) {
            due("about(" + kind + ", 0)", x.about(kind, 0), kind);
        }
        for (int kind : outside(0, 4)) {
            due("KIND " + kind, x.signal(kind, NONE, 1, 0), OUTSIDE);
        }
    }

    private static void secondsAndOdd() {
        of(TERMS, "with SECONDS (1 to 9)");
        MindReaders x = new MindReaders();
        due("1 SECOND", x.signal(0, NONE, 1, 0), 0);
        due("9 SECONDS", x.signal(0, NONE, 9, 0), 1);
        due("1 is kept", x.about(0, 2), 1);
        due("9 is kept", x.about(1, 2), 9);
        due("0 SECONDS", x.signal(0, NONE, 0, 0), OUTSIDE);
        due("10 SECONDS", x.signal(0, NONE, 10, 0), OUTSIDE);

        of(TERMS, "and ODD (0 to 9: how odd it sounds);");
        due("ODD 0", x.signal(0, NONE, 1, 0), 2);
        due("ODD 9", x.signal(0, NONE, 1, 9), 3);
        due("0 is kept", x.about(2, 3), 0);
        due("9 is kept", x.about(3, 3), 9);
        due("ODD -1", x.signal(0, NONE, 1, -1), OUTSIDE);
        due("ODD 10", x.signal(0, NONE, 1, 10), OUTSIDE);
    }

    private static void toned() {
        of(TERMS, "a TONED is of a SIGNAL n told ahead that is a WORD or a PAUSE.");
        int[] due = {5, 5, UNKNOWN, UNKNOWN, UNKNOWN, UNKNOWN, UNKNOWN, UNKNOWN, UNKNOWN};
        for (int n = 0; n < due.length; n++) {
            due("behind five, TONED of " + n, Check.withKinds().signal(2, n, 1, 0), due[n]);
        }
        due("nothing told ahead", new MindReaders().signal(2, 0, 1, 0), UNKNOWN);
    }

    private static void taken() {
        of(TERMS, "All are taken as WORDS, too;");
        for (int s = 0; s < 5; s++) {
            due("as(" + s + ", 0)", mixed().as(s, 0), s);
        }
        of(TERMS, "a TONED also as a PAUSE.");
        int[] due = {0, 1, NONE, NONE, NONE};
        for (int s = 0; s < 5; s++) {
            due("as(" + s + ", 1)", mixed().as(s, 1), due[s]);
        }
    }

    private static void isPlain(String row, String due) {
        MindReaders x = Check.withKinds();
        Check.code(x, row);
        due(row + " PLAIN, how many", x.speech(0, 0, 10), due.length());
        for (int i = 1; i <= 10; i++) {
            due(row + " PLAIN, " + i, x.speech(0, 0, 10 + i), i <= due.length() ? due.charAt(i - 1) - 'a' : NONE);
        }
    }

    private static void plain() {
        of(TERMS, "PLAIN a row of SIGNALS is so, from its first one on:");
        isPlain("aeb", "b");
        isPlain("abe", "a");
        isPlain("eab", "ab");

        of(TERMS, "a WORD, a PAUSE stands;");
        isPlain("a", "a");
        isPlain("b", "b");
        isPlain("babba", "babba");

        of(TERMS, "a TONED stands as its SIGNAL n, twice;");
        isPlain("c", "bb");
        isPlain("aca", "abba");
        isPlain("ccccc", "bbbbbbbbbb");

        of(TERMS, "an EMPTY stands for nothing;");
        isPlain("d", "");
        isPlain("ddddd", "");
        isPlain("dadbd", "ab");

        of(TERMS, "a MENDING takes away the last that stands");
        isPlain("ae", "");
        isPlain("abe", "a");
        isPlain("ce", "b");
        isPlain("cee", "");
        isPlain("ade", "");
        isPlain("abee", "");

        of(TERMS, "(nothing, if there is none),");
        isPlain("e", "");
        isPlain("eeeea", "a");
        isPlain("aeeb", "b");
        isPlain("dea", "a");

        of(TERMS, "and stands for nothing itself.");
        isPlain("eeeee", "");
        isPlain("aebec", "bb");
    }

    // ---- 1: things and codes

    private static void thingsAndCodes() {
        eightThings();
        weights();
        fourCodes();
        texts();
        notTold();
        says();
    }

    private static void eightThings() {
        of(TERMS, "THINGS (8 at most, numbered)");
        MindReaders x = new MindReaders();
        for (int i = 0; i < 8; i++) {
            due("THING " + i, x.thing(1), i);
        }
        due("a ninth", x.thing(1), FULL);
        due("eight", x.count(1), 8);
    }

    private static void weights() {
        of(TERMS, "have WEIGHT (1 to 99: how often they are handed up).");
        MindReaders x = new MindReaders();
        due("1", x.thing(1), 0);
        due("99", x.thing(99), 1);
        due("0", x.thing(0), OUTSIDE);
        due("100", x.thing(100), OUTSIDE);
        due("one of 1 is handed up as often as it is told, above", x.seen(2, 0), 99);
        due("one of 1 is handed up as often as it is told, below", x.seen(2, 1), 5000);
    }

    private static void fourCodes() {
        of(TERMS, "CODES (4 at most, numbered) are texts:");
        MindReaders x = new MindReaders();
        for (int i = 0; i < 4; i++) {
            due("CODE " + i, Check.code(x, "abcdefgh".substring(i, i + 1)), i);
        }
        due("a fifth", Check.code(x, "h"), FULL);
        for (int i = 0; i < 4; i++) {
            due("CODE " + i + " is its text", x.speech(i, 0, 1), i);
        }
    }

    private static void isCode(String text, boolean whether) {
        due("\"" + text + "\" read as a CODE", Check.code(new MindReaders(), text), whether ? 0 : STATE);
    }

    private static void texts() {
        of(TERMS, "one to eight SPEECHES");
        isCode("", false);
        isCode("a", true);
        isCode("a,b,c,d,e,f,g,h", true);
        isCode("a,b,c,d,e,f,g,h,a", false);
        isCode(LONGEST, true);

        of(TERMS, "with \",\" between,");
        isCode(",", false);
        isCode(",a", false);
        isCode("a,", false);
        isCode("a,,b", false);
        isCode("a;b", false);
        isCode("a-b", false);
        isCode("a, b", false);

        of(TERMS, "each one to five letters (a to h):");
        isCode("abcde", true);
        isCode("abcdef", false);
        isCode("a,abcde,b", true);
        isCode("a,abcdef,b", false);
        isCode("hhhhh", true);
        isCode("i", false);
        isCode("`", false);
        isCode("A", false);

        of(TERMS, "SPEECH i is for THING i.");
        MindReaders x = Check.with("h,g,f,e,d,c,b,a", 1, 2, 3, 4, 5, 6, 7, 8);
        for (int i = 0; i < 8; i++) {
            due("THING of SPEECH " + i, Check.means(x, 0, "hgfedcba".substring(i, i + 1)), i);
        }
    }

    private static void notTold() {
        of(TERMS, "A SIGNAL that is not told stands as a WORD of 1 SECOND, ODD 0.");
        MindReaders x = Check.with("hh,aab", 9);
        due("it stands", x.speech(0, 0, 10), 2);
        due("as itself", x.speech(0, 0, 12), 7);
        due("1 SECOND each", x.speech(0, 0, 30), 2);
        due("ODD 0", x.oddness(0), 0);
        x.signal(3, NONE, 5, 9);
        due("from when it is told it stands so", x.speech(0, 1, 10), 1);
        due("and is as long as told", x.speech(0, 1, 30), 11);
        due("the others stand as they did", x.speech(0, 0, 10), 2);
        due("no SIGNAL came by it", x.about(7, 0), UNKNOWN);
        x = Check.with("a,b", 1);
        Check.note(x, 0, "ab");
        due("a NOTE of one that is not told", x.which(), 0);
        x.signal(0, NONE, 1, 0);
        x.signal(3, NONE, 1, 0);
        due("the NOTE once it is told as an EMPTY", x.which(), 1);
    }

    private static void says() {
        of(TERMS, "A CODE SAYS a THING, if it has its SPEECH.");
        MindReaders x = Check.with("a,b", 5, 5, 5);
        due("THING 1, the last one SAID", x.dealt(0, 11), 1);
        due("THING 2, not SAID", x.dealt(0, 12), NONE);
        due("THING 1 is of a CODE with its SPEECH", x.right(0, 1, 2, 0, 0), 1);
        due("THING 2 is not", x.right(0, 2, 2, 0, 0), UNKNOWN);
    }

    // ---- 2: what it means

    private static void alike() {
        means();
        clear();
        starts();
    }

    private static void means() {
        of(TERMS, "A row MEANS by a CODE the least THING whose SPEECH, PLAIN, is the row, PLAIN");
        MindReaders x = kindsWith("h,c,bb,bbd");
        due("bb", Check.means(x, 0, "bb"), 1);
        due("c", Check.means(x, 0, "c"), 1);
        due("dbabeeb", Check.means(x, 0, "dbabeeb"), 1);
        due("h", Check.means(x, 0, "h"), 0);

        of(TERMS, "(whether that THING is told or not);");
        MindReaders none = Check.with("a,b,c");
        due("no THING is told", Check.means(none, 0, "c"), 2);
        none.thing(1);
        due("one THING is told", Check.means(none, 0, "b"), 1);

        of(TERMS, "none else.");
        due("the start of one", Check.means(x, 0, "b"), NONE);
        due("more than one", Check.means(x, 0, "bbb"), NONE);
        due("nothing", Check.means(x, 0, ""), NONE);
        due("one wrong", Check.means(x, 0, "ba"), NONE);
    }

    private static void isClear(MindReaders x, String code, int whether, int first, int other) {
        Check.code(x, code);
        due(code, x.clear(0, 0), whether);
        due("first of " + code, x.clear(0, 1), first);
        due("second of " + code, x.clear(0, 2), other);
    }

    private static void clear() {
        of(TERMS, "CLEAR: no two SPEECHES are alike, PLAIN;");
        isClear(Check.withKinds(), "c,bb", 0, 0, 1);
        isClear(Check.withKinds(), "d,e", 0, 0, 1);
        isClear(Check.withKinds(), "a", 1, NONE, NONE);
        isClear(Check.withKinds(), "d", 1, NONE, NONE);
        isClear(Check.withKinds(), "ab,ba,b,bb", 1, NONE, NONE);

        of(TERMS, "the first such pair (by the first one, then the second).");
        isClear(new MindReaders(), "a,b,b,a", 0, 0, 3);
        isClear(new MindReaders(), "a,b,a,a", 0, 0, 2);
        isClear(new MindReaders(), "a,b,c,c,b", 0, 1, 4);
        isClear(new MindReaders(), "a,b,c,d,e,f,g,g", 0, 6, 7);
        isClear(new MindReaders(), "a,b,c,d,e,f,g,a", 0, 0, 7);
    }

    private static void isStart(MindReaders x, String code, int first, int other) {
        Check.code(x, code);
        due("first of " + code, x.starts(0, 0), first);
        due("other of " + code, x.starts(0, 1), other);
    }

    private static void starts() {
        of(TERMS, "STARTS: the first pair (by the first one, then the second) of which the first one's SPEECH, PLAIN, is the "
            + "start of the other one's, PLAIN");
        isStart(new MindReaders(), "ab,b,abc,bc,abd", 0, 2);
        isStart(new MindReaders(), "abc,a,ab", 1, 0);
        isStart(new MindReaders(), "b,ac,ad,a", 3, 1);
        isStart(new MindReaders(), "a,b,c,d,e,f,hh,h", 7, 6);
        isStart(new MindReaders(), "a,b,c", NONE, NONE);
        isStart(new MindReaders(), "ab,b,cb", NONE, NONE);
        isStart(Check.withKinds(), "b,c", 0, 1);
        isStart(Check.withKinds(), "abe,ab", 0, 1);

        of(TERMS, "(not all of it;");
        isStart(new MindReaders(), "a,a", NONE, NONE);
        isStart(Check.withKinds(), "c,bb", NONE, NONE);
        isStart(new MindReaders(), "a", NONE, NONE);

        of(TERMS, "a SPEECH that is PLAIN nothing is the start of all that are not).");
        isStart(Check.withKinds(), "d,e", NONE, NONE);
        isStart(Check.withKinds(), "a,d", 1, 0);
        isStart(Check.withKinds(), "d,e,a", 0, 2);
        isStart(Check.withKinds(), "ae,b", 0, 1);
    }

    private static void isTwice(MindReaders x, String code, int due) {
        Check.code(x, code);
        due(code, x.twice(0), due);
    }

    private static void twice() {
        of(TERMS, "TWICE: the least length of a row (of SIGNALS that stand, at least one)");
        isTwice(new MindReaders(), "aa,aaa", 5);
        isTwice(new MindReaders(), "a,aa,aaa", 2);
        isTwice(new MindReaders(), "aaa,a", 3);
        isTwice(new MindReaders(), "aa,aba,abaa,bab", 11);
        isTwice(new MindReaders(), "aabbb,bbba,baab,ba,abaa", 21);
        isTwice(Check.withKinds(), "b,c", 2);
        isTwice(Check.withKinds(), "d,e", NONE);
        isTwice(Check.withKinds(), "ccccc,cccce", 17);

        of(TERMS, "that is put together of SPEECHES, PLAIN (those that are PLAIN nothing left out),");
        isTwice(Check.withKinds(), "a,d", NONE);
        isTwice(Check.withKinds(), "d,a,e,f", NONE);
        isTwice(Check.withKinds(), "d,aa,e,a", 2);
        isTwice(Check.withKinds(), "ab,abe,b", 2);

        of(TERMS, "in two ways (unlike rows of SPEECHES, by number).");
        isTwice(new MindReaders(), "a,a", 1);
        isTwice(new MindReaders(), "abcde,b,abcde", 5);
        isTwice(new MindReaders(), "aa", NONE);
        isTwice(new MindReaders(), "a,ab,b", 2);
        isTwice(new MindReaders(), "a,ba,ab", 3);
        isTwice(new MindReaders(), "a,ab", NONE);
        isTwice(new MindReaders(), "a,ab,bb", NONE);
    }

    private static void isPart(String call, int above, int gotAbove, int below, int gotBelow) {
        due(call + ", above", gotAbove, above);
        due(call + ", below", gotBelow, below);
    }

    private static void lengths() {
        of(TERMS, "LONG: SECONDS of a SPEECH (of all its letters).");
        MindReaders x = kindsWith("de,c,cced,h");
        int[] due = {9, 3, 15, 1};
        for (int s = 0; s < due.length; s++) {
            due("LONG of " + s, x.speech(0, s, 30), due[s]);
        }

        of(TERMS, "MEAN: WEIGHT times LONG of THINGS that the CODE SAYS, together, by their WEIGHTS.");
        x = kindsWith("a,bb", 10, 5, 99);
        isPart("a THING more than it SAYS", 2, x.mean(0, 0), 1, x.mean(0, 1));
        x = kindsWith("a,bb,ccc", 10, 4);
        isPart("a SPEECH more than there are THINGS", 13, x.mean(0, 0), 7, x.mean(0, 1));

        of(TERMS, "ODDNESS: WEIGHT times ODD of all letters, together.");
        due("a THING more than it SAYS", kindsWith("ab,ced", 10, 5, 99).oddness(0), 10 + 5 * 9);
        due("a SPEECH more than there are THINGS", kindsWith("ab,ced,ccccc", 10, 5).oddness(0), 10 + 5 * 9);
        due("no THINGS", kindsWith("ab,ced").oddness(0), 0);
    }

    private static void isDealt(MindReaders x, int... speeches) {
        for (int i = 0; i < speeches.length; i++) {
            due("the SPEECH for THING " + i, x.dealt(0, 10 + i), speeches[i]);
        }
    }

    private static void dealt() {
        of(TERMS, "DEALT anew: SPEECHES of THINGS that it SAYS given to these THINGS so that MEAN is least: the shortest to the "
            + "heaviest;");
        MindReaders x = kindsWith("ccc,c,cc,a", 5, 20, 50);
        isDealt(x, 0, 2, 1, NONE);
        isPart("MEAN then", 21, x.dealt(0, 0), 5, x.dealt(0, 1));
        isDealt(kindsWith("ccc,c", 5, 20, 50), 0, 1, NONE);

        of(TERMS, "of like ones of LONG that of the least number,");
        isDealt(Check.with("ab,c,de,f", 1, 2, 3, 4), 2, 0, 3, 1);

        of(TERMS, "of like WEIGHTS the least THING first.");
        isDealt(Check.with("a,bb,ccc,dddd", 5, 5, 9, 5), 1, 2, 0, 3);

        of(TERMS, "SHORT: if r SIGNALS (2 to 8) of one SECOND each were used freely, no SPEECH the start of another: the least "
            + "MEAN of all THINGS");
        x = Check.with("a", 2, 1, 1);
        isPart("r = 2", 3, x.shortest(2, 0), 2, x.shortest(2, 1));
        isPart("r = 3", 1, x.shortest(3, 0), 1, x.shortest(3, 1));
        isPart("r = 8", 1, x.shortest(8, 0), 1, x.shortest(8, 1));
        due("r = 1", x.shortest(1, 0), OUTSIDE);
        due("r = 9", x.shortest(9, 0), OUTSIDE);

        of(TERMS, "(of one THING: 0).");
        x = Check.with("a,b", 99);
        isPart("r = 2", 0, x.shortest(2, 0), 1, x.shortest(2, 1));
        isPart("r = 8", 0, x.shortest(8, 0), 1, x.shortest(8, 1));
    }

    // ---- 2: through noise

    private static void apart() {
        of(TERMS, "APART: if all SPEECHES of a CODE are, PLAIN, of one length,");
        due("c,fg", kindsWith("c,fg").apart(0), 2);
        due("b,c", kindsWith("b,c").apart(0), NONE);
        due("a,b,fg", kindsWith("a,b,fg").apart(0), NONE);
        due("d,e", kindsWith("d,e").apart(0), 0);

        of(TERMS, "the least number of places in which two of them differ.");
        due("aaa,bbb,abb", Check.with("aaa,bbb,abb").apart(0), 1);
        due("abb,aaa,bbb", Check.with("abb,aaa,bbb").apart(0), 1);
        due("aaa,bbb,aaa", Check.with("aaa,bbb,aaa").apart(0), 0);
        due("aaaaa,bbbbb,ccccc", Check.with("aaaaa,bbbbb,ccccc").apart(0), 5);
        named();
    }

    private static void named() {
        of(TERMS, "NAMED by a row that was heard: the THING whose SPEECH, PLAIN, differs from it (PLAIN) in fewest places");
        MindReaders x = Check.with("aaaa,bbbb,cccc");
        due("abbb", Check.named(x, 0, "abbb"), 1);
        due("aaab", Check.named(x, 0, "aaab"), 0);
        due("cbbc to cccc and bbbb", Check.named(x, 0, "cbbc"), 1);
        due("cccc", Check.named(x, 0, "cccc"), 2);
        due("PLAIN", Check.named(kindsWith("c,fg"), 0, "fdceeg"), 1);

        of(TERMS, "(of one length alone;");
        x = Check.with("aaa,bb");
        due("ab", Check.named(x, 0, "ab"), 1);
        due("bbb", Check.named(x, 0, "bbb"), 0);
        due("a", Check.named(x, 0, "a"), NONE);
        due("aaaa", Check.named(x, 0, "aaaa"), NONE);

        of(TERMS, "of like ones the least;");
        x = Check.with("ab,ba,ba");
        due("aa", Check.named(x, 0, "aa"), 0);
        due("hh", Check.named(x, 0, "hh"), 0);
        due("ba", Check.named(x, 0, "ba"), 1);

        of(TERMS, "told or not).");
        x = Check.with("aa,bb,cc");
        due("no THING is told", Check.named(x, 0, "cc"), 2);
        x.thing(1);
        due("one THING is told", Check.named(x, 0, "bc"), 1);
        due("by noise one that is not told, too", Check.with("a,b", 1).right(0, 0, 2, 3, 0), 7);
    }

    private static void isRight(MindReaders x, int thing, int r, int e, long above, long below) {
        String call = "THING " + thing + ", r = " + r + ", e = " + e;
        due(call + ", above", x.right(0, thing, r, e, 0), above);
        due(call + ", below", x.right(0, thing, r, e, 1), below);
    }

    private static void right() {
        of(TERMS, "RIGHT: how likely a THING is NAMED, if its SPEECH is said PLAIN");
        isRight(Check.with("a,b", 1, 1), 0, 2, 3, 7, 10);
        isRight(kindsWith("c,ada", 1, 1), 0, 2, 1, 99, 100);
        isRight(kindsWith("c,ada", 1, 1), 1, 2, 1, 81, 100);

        of(TERMS, "and each that stands is heard as another one of the r SIGNALS");
        isRight(Check.with("a,b", 1, 1), 0, 3, 2, 9, 10);
        isRight(Check.with("a,b", 1, 1), 1, 3, 2, 4, 5);

        of(TERMS, "(what is heard stands so, of whatever KIND it is)");
        isRight(kindsWith("a,b", 1, 1), 0, 8, 7, 9, 10);
        isRight(kindsWith("a,b", 1, 1), 0, 5, 4, 9, 10);

        of(TERMS, "(2 to 8; numbers 0 to r less 1, that of the SPEECH among them)");
        MindReaders x = Check.with("b,c,h", 1, 1, 1);
        isRight(x, 0, 2, 0, 1, 1);
        due("c is not among 2", x.right(0, 1, 2, 0, 0), STATE);
        isRight(x, 1, 3, 0, 1, 1);
        due("h is not among 7", x.right(0, 2, 7, 0, 0), STATE);
        isRight(x, 2, 8, 0, 1, 1);
        due("r = 1", x.right(0, 0, 1, 0, 0), OUTSIDE);
        due("r = 9", x.right(0, 0, 9, 0, 0), OUTSIDE);

        of(TERMS, "in e tenths (0 to 10),");
        isRight(Check.with("a,b", 1, 1), 0, 2, 0, 1, 1);
        isRight(Check.with("a,b", 1, 1), 0, 2, 10, 0, 1);
        due("e = -1", x.right(0, 0, 2, -1, 0), OUTSIDE);
        due("e = 11", x.right(0, 0, 2, 11, 0), OUTSIDE);

        of(TERMS, "all others alike;");
        isRight(Check.with("a,b", 1, 1), 0, 4, 3, 9, 10);
        isRight(Check.with("a,b,d", 1, 1, 1), 0, 4, 3, 4, 5);

        of(TERMS, "SPEECHES of 4 PLAIN ones at most.");
        isRight(kindsWith("cc,aaaa", 1, 1), 0, 2, 0, 1, 1);
        due("five", kindsWith("bcc,aaaa", 1, 1).right(0, 0, 2, 0, 0), STATE);
        isRight(kindsWith("bcced,aaaa", 1, 1), 0, 2, 0, 1, 1);
    }

    // ---- 3: the looker

    private static void notes() {
        of(TERMS, "A LOOKER's NOTES (10 at most):");
        MindReaders x = Check.with("a", 1);
        for (int i = 1; i <= 10; i++) {
            due("NOTE " + i, Check.note(x, 0, "a"), i);
        }
        due("an eleventh", Check.note(x, 0, "a"), FULL);
        due("ten", x.count(3), 10);

        of(TERMS, "a row of letters (8 at most) that was said, and the THING.");
        x = Check.with("a,b", 1, 1);
        due("no letters", Check.note(x, 0, ""), 1);
        due("8 letters", Check.note(x, 0, "abcdefgh"), 2);
        due("9 letters", Check.note(x, 0, "abcdefgha"), STATE);
        x = Check.with("a,b", 1, 1);
        Check.note(x, 1, "b");
        due("the THING is the one told", x.which(), 1);

        of(TERMS, "WHICH: CODES by which each row, PLAIN, is the SPEECH, PLAIN, of its THING.");
        x = kindsWith("c,a", 1, 1);
        Check.code(x, "bb,a");
        Check.code(x, "a,c");
        due("no NOTES", x.which(), 7);
        Check.note(x, 0, "bbd");
        due("PLAIN", x.which(), 3);
        Check.note(x, 1, "bb");
        due("each row", x.which(), 0);
    }

    private static void isStep(MindReaders x, int week, int due) {
        due("WEEK " + week, x.step(0, week), due);
    }

    private static void weeks() {
        of(TERMS, "WEEKS: in WEEK w by STEP k THING i is said by the SPEECH of THING (i and k times w, its rest by how many THINGS "
            + "the CODE SAYS)");
        MindReaders x = noted("a,b,c", 3, 1, "a");
        isStep(x, 0, NONE);
        isStep(x, 1, 2);
        isStep(x, 2, 1);
        isStep(x, 3, NONE);
        isStep(x, 98, 1);
        isStep(x, 99, NONE);
        isStep(noted("a,b,c,d", 3, 1, "a"), 1, 2);
        isStep(noted("a,b,c", 2, 1, "a"), 1, 1);

        of(TERMS, "of those that it SAYS.");
        isStep(noted("a,b", 3, 2, "a"), 1, NONE);
        isStep(noted("a,b", 3, 2, "b"), 1, NONE);
        isStep(noted("a,b,c", 2, 0, "c"), 1, NONE);

        of(TERMS, "STEP: the least k (0 to 7) by which in WEEK w a CODE lets all NOTES be.");
        x = noted("a,b,c,d,e,f,g,h", 8, 0, "h");
        isStep(x, 1, 7);
        isStep(x, 7, 1);
        isStep(x, 3, 5);
        isStep(x, 2, NONE);
        Check.note(x, 1, "a");
        isStep(x, 1, 7);
        Check.note(x, 2, "c");
        isStep(x, 1, NONE);
        isStep(noted("a,a", 2, 0, "a"), 1, 0);

        of(TERMS, "ALL SEEN: how likely each THING was handed up, if n (1 to 6) are handed up by WEIGHTS, one by one.");
        x = Check.with("a", 1, 3);
        due("n = 1", x.seen(1, 0), 0);
        due("n = 2, above", x.seen(2, 0), 3);
        due("n = 2, below", x.seen(2, 1), 8);
        due("n = 6, above", x.seen(6, 0), 1683);
        due("n = 6, below", x.seen(6, 1), 2048);
        due("n = 0", x.seen(0, 0), OUTSIDE);
        due("n = 7", x.seen(7, 0), OUTSIDE);
    }

    private static void changes() {
        of(TERMS, "CHANGE from a CODE to another one: SECONDS of SPEECHES of the other one that are said otherwise (by letters) "
            + "than by the first one,");
        MindReaders x = kindsWith("c,a");
        Check.code(x, "bb,a");
        due("unlike by letters, alike PLAIN", x.change(0, 1), 4);
        due("and back", x.change(1, 0), 3);
        due("to itself", x.change(0, 0), 0);

        of(TERMS, "or that this one does not SAY, together.");
        x = kindsWith("a");
        Check.code(x, "b,b,cc");
        due("to a longer one", x.change(0, 1), 2 + 2 + 6);
        due("to a shorter one", x.change(1, 0), 1);

        of(TERMS, "CHEAPEST: the other CODE of least CHANGE,");
        x = kindsWith("a,b");
        due("no other one", x.cheapest(0), NONE);
        Check.code(x, "b,a");
        Check.code(x, "a,f");
        due("the last one", x.cheapest(0), 2);
        due("from the last one", x.cheapest(2), 0);
        due("from the middle one", x.cheapest(1), 2);

        of(TERMS, "of like ones the least.");
        x = Check.with("a,b");
        Check.code(x, "a,c");
        Check.code(x, "a,d");
        due("from 0", x.cheapest(0), 1);
        due("from 1", x.cheapest(1), 0);
        due("from 2", x.cheapest(2), 0);

        of(TERMS, "LUCK: how likely r or more of n (1 to 12) are named, if each is one of k (2 to 9) by chance.");
        x = new MindReaders();
        due("2 or more of 3, one of 2, above", x.luck(3, 2, 2, 0), 1);
        due("2 or more of 3, one of 2, below", x.luck(3, 2, 2, 1), 2);
        due("12 of 12, one of 9, above", x.luck(12, 9, 12, 0), 1);
        due("12 of 12, one of 9, below", x.luck(12, 9, 12, 1), 282429536481L);
        due("n = 0", x.luck(0, 2, 0, 0), OUTSIDE);
        due("n = 13", x.luck(13, 2, 0, 0), OUTSIDE);
        due("k = 1", x.luck(1, 1, 0, 0), OUTSIDE);
        due("k = 10", x.luck(1, 10, 0, 0), OUTSIDE);
    }

    private static void stopped() {
        of(TERMS, "LEFT of a CODE with a set of SIGNALS stopped (bits): these are struck out of all SPEECHES;");
        MindReaders x = kindsWith("ab,cb,ba");
        due("none", x.left(0, 0), 3);
        due("a", x.left(0, 1), 2);
        due("b, and c that is of it stays", x.left(0, 2), 2);
        due("a and b", x.left(0, 3), 2);
        due("all", x.left(0, 255), 1);

        of(TERMS, "how many are unlike then, PLAIN.");
        x = kindsWith("a,abe,c,bb");
        due("none", x.left(0, 0), 2);
        due("the MENDING", x.left(0, 16), 3);
        due("the TONED", x.left(0, 4), 3);
        due("all but the EMPTY", x.left(0, 255 - 8), 1);

        of(TERMS, "STOP: the fewest SIGNALS by which one at most is LEFT;");
        due("a", Check.with("a").stop(0), 0);
        due("c,bb", kindsWith("c,bb").stop(0), 0);
        due("a,b", Check.with("a,b").stop(0), 3);
        due("hab,ab", Check.with("hab,ab").stop(0), 128);
        due("abh,hab, not both a and b, of fewer bits", Check.with("abh,hab").stop(0), 128);
        due("a,b,c,d,e,f,g,h", Check.with("a,b,c,d,e,f,g,h").stop(0), 255);

        of(TERMS, "of like ones of least bits.");
        due("ab,ba", Check.with("ab,ba").stop(0), 1);
        due("gh,hg", Check.with("gh,hg").stop(0), 64);
        due("agh,hag,gha", Check.with("agh,hag,gha").stop(0), 65);
    }

    // ---- 3: image and refusals

    private static void refusals() {
        image();
        names();
        first();
        nothingChanged();
    }

    private static void image() {
        of(TERMS, "An IMAGE keeps WEIGHTS and NOTES.");
        MindReaders x = busy("ab");
        Check.code(x, "h");
        x.signal(0, NONE, 1, 0);
        Check.page(x, "abc");
        x.restore();
        due("WEIGHTS", x.count(5), 60);
        due("NOTES", x.count(3), 1);
        due("SIGNALS are not in it", x.count(0), 6);
        due("CODES are not in it", x.count(2), 3);
        due("THE PAGE is not in it", x.count(4), 3);
    }

    private static void names() {
        of(TERMS, "UNKNOWN (a number names nothing), OUTSIDE (it is not as told), STATE (as told), FULL;");
        due("UNKNOWN", MindReaders.UNKNOWN, -101);
        due("OUTSIDE", MindReaders.OUTSIDE, -102);
        due("STATE", MindReaders.STATE, -103);
        due("FULL", MindReaders.FULL, -104);
        due("a number names nothing", new MindReaders().twice(0), UNKNOWN);
        due("it is not as told", new MindReaders().thing(100), OUTSIDE);
        due("as told", new MindReaders().seen(1, 0), STATE);
        due("full", full("").thing(1), FULL);
    }

    private static void first() {
        of(TERMS, "Refusals, of several the first as told by each call:");
        MindReaders x = full(LONGEST + ",");
        due("letters: OUTSIDE, FULL", x.letters(127), OUTSIDE);
        due("code: STATE, FULL", x.code(), STATE);
        due("signal: OUTSIDE, UNKNOWN, OUTSIDE, FULL", x.signal(5, 8, 10, 10), OUTSIDE);
        due("signal: UNKNOWN, OUTSIDE, FULL", x.signal(2, 8, 10, 10), UNKNOWN);
        due("signal: OUTSIDE, FULL", x.signal(2, 0, 1, 10), OUTSIDE);
        due("as: UNKNOWN, OUTSIDE", x.as(8, 5), UNKNOWN);
        due("thing: OUTSIDE, FULL", x.thing(0), OUTSIDE);
        due("shortest of no THINGS: OUTSIDE, STATE", new MindReaders().shortest(1, 0), OUTSIDE);
        due("mean: UNKNOWN, OUTSIDE, STATE", new MindReaders().mean(0, 2), UNKNOWN);
        due("mean: OUTSIDE, STATE", Check.with("a").mean(0, 2), OUTSIDE);
        due("note: UNKNOWN, STATE, FULL", x.note(8), UNKNOWN);
        due("note: STATE, FULL", x.note(0), STATE);
    }

    private static void nothingChanged() {
        of(TERMS, "they change nothing.");
        asked("letters", FULL, () -> full(LONGEST), x -> x.letters(0x6161));
        asked("code", FULL, () -> full("a"), x -> x.code());
        asked("signal", FULL, () -> full(""), x -> x.signal(0, NONE, 1, 0));
        asked("thing", FULL, () -> full(""), x -> x.thing(1));
        asked("weigh", OUTSIDE, () -> full(""), x -> x.weigh(0, 0));
        asked("note", FULL, () -> full("a"), x -> x.note(0));
        asked("restore", STATE, () -> Check.with("a", 1), x -> x.restore());
    }
}
