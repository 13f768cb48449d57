/** Promises 12 to 22: what rows mean, and how good a code is. */
public final class MeaningTest {
    private static final int NONE = -1, UNKNOWN = -101, OUTSIDE = -102, STATE = -103;
    private static final int MIN = Integer.MIN_VALUE, MAX = Integer.MAX_VALUE;

    public static void main(String[] args) {
        means();
        clear();
        starts();
        twice();
        mean();
        oddness();
        dealt();
        shortest();
        apart();
        named();
        right();
        rightRefused();
        Check.end("MeaningTest");
    }

    private static void means() {
        MindReaders x = Check.withKinds();
        Check.code(x, "ab,cb,de,ba,bcd");
        Check.due("12: by letters", Check.means(x, 0, "ba"), 3);
        Check.due("12: the least of like ones", Check.means(x, 0, "bbb"), 1);
        Check.due("12: PLAIN", Check.means(x, 0, "bbdbae"), 1);
        Check.due("12: nothing", Check.means(x, 0, ""), 2);
        Check.due("12: PLAIN nothing", Check.means(x, 0, "ddd"), 2);
        Check.due("12: none", Check.means(x, 0, "a"), NONE);
        Check.due("12: longer", Check.means(x, 0, "aba"), NONE);
        Check.due("12: a whole page", Check.means(x, 0, "dddddddddddddddddddddddddddddddddddddddddddddddd"), 2);
        Check.due("12: a page of TONED", Check.means(x, 0, "cccccccccccccccccccccccccccccccccccccccccccccccc"), NONE);
        Check.due("12: all taken back but one", Check.means(x, 0, "aceeebbb"), 1);
        Check.due("12: i", Check.means(x, 0, "bai"), STATE);
        Check.due("12: a comma", Check.means(x, 0, "b,a"), STATE);
        Check.due("12: UNKNOWN ahead of STATE", x.means(1), UNKNOWN);
        Check.due("12: CODE -1", x.means(-1), UNKNOWN);
        Check.due("12: THE PAGE stays", x.count(4), 3);
    }

    private static void isClear(String code, int whether, int first, int other) {
        MindReaders x = Check.withKinds();
        Check.code(x, code);
        Check.due("13: CLEAR of " + code, x.clear(0, 0), whether);
        Check.due("13: first of " + code, x.clear(0, 1), first);
        Check.due("13: second of " + code, x.clear(0, 2), other);
    }

    private static void clear() {
        isClear("a", 1, NONE, NONE);
        isClear("a,b,ab", 1, NONE, NONE);
        isClear("a,b,a", 0, 0, 2);
        isClear("a,c,bb,ad", 0, 0, 3);
        isClear("b,c,a,bb,a", 0, 1, 3);
        isClear("a,d,e", 0, 1, 2);
        isClear("a,a,a", 0, 0, 1);
        MindReaders x = Check.with("a,a");
        Check.due("13: what 3", x.clear(0, 3), OUTSIDE);
        Check.due("13: what -1", x.clear(0, -1), OUTSIDE);
        Check.due("13: UNKNOWN ahead of OUTSIDE", x.clear(1, 3), UNKNOWN);
        Check.due("13: wild", x.clear(MIN, MAX), UNKNOWN);
    }

    private static void isStart(String code, int first, int other) {
        MindReaders x = Check.withKinds();
        Check.code(x, code);
        Check.due("14: first of " + code, x.starts(0, 0), first);
        Check.due("14: other of " + code, x.starts(0, 1), other);
    }

    private static void starts() {
        isStart("a", NONE, NONE);
        isStart("a,b", NONE, NONE);
        isStart("a,a", NONE, NONE);
        isStart("a,ab", 0, 1);
        isStart("ab,a", 1, 0);
        isStart("bbb,c", 1, 0);
        isStart("ab,b,f,ff,a,bb", 1, 5);
        isStart("d,e", NONE, NONE);
        isStart("a,d", 1, 0);
        isStart("d,e,a", 0, 2);
        isStart("ba,a,aa,ab", 1, 2);
        isStart("aa,ab,a", 2, 0);
        MindReaders x = Check.with("a,ab");
        Check.due("14: what 2", x.starts(0, 2), OUTSIDE);
        Check.due("14: what -1", x.starts(0, -1), OUTSIDE);
        Check.due("14: UNKNOWN ahead of OUTSIDE", x.starts(1, 2), UNKNOWN);
    }

    private static void isTwice(String code, int due) {
        MindReaders x = Check.withKinds();
        Check.code(x, code);
        Check.due("15: TWICE of " + code, x.twice(0), due);
    }

    private static void twice() {
        isTwice("a", NONE);
        isTwice("a,b", NONE);
        isTwice("a,ab", NONE);
        isTwice("a,a", 1);
        isTwice("ab,ab", 2);
        isTwice("d,e", NONE);
        isTwice("d,a", NONE);
        isTwice("a,aa", 2);
        isTwice("aa,aaa", 5);
        isTwice("aaaa,aaaaa", 9);
        isTwice("a,ab,b", 2);
        isTwice("ab,abb,bab", 5);
        isTwice("a,ba,ab", 3);
        isTwice("a,ab,bb", NONE);
        isTwice("b,c", 2);
        isTwice("ccccc,cccce", 17);
        isTwice("aabb,abbaa,baab,aab,aba", 7);
        isTwice("a,afg,gfgf,fgg,gff", NONE);
        isTwice("ab,a,fg,bf,gh,hab", 7);
        Check.due("15: UNKNOWN", Check.with("a").twice(1), UNKNOWN);
        Check.due("15: -1", Check.with("a").twice(-1), UNKNOWN);
    }

    private static void mean() {
        MindReaders x = Check.withKinds();
        Check.code(x, "a,bb,ce");
        Check.due("16: no THING", x.mean(0, 0), STATE);
        Check.due("16: OUTSIDE ahead of STATE", x.mean(0, 2), OUTSIDE);
        Check.due("16: UNKNOWN ahead of OUTSIDE", x.mean(1, 2), UNKNOWN);
        Check.things(x, 10);
        Check.due("16: above, one THING", x.mean(0, 0), 1);
        Check.due("16: below, one THING", x.mean(0, 1), 1);
        Check.things(x, 5, 3);
        Check.due("16: above", x.mean(0, 0), 3);
        Check.due("16: below", x.mean(0, 1), 1);
        Check.things(x, 99);
        Check.due("16: a THING that is not SAID, above", x.mean(0, 0), 3);
        Check.due("16: a THING that is not SAID, below", x.mean(0, 1), 1);
        x.weigh(1, 7);
        Check.due("16: above once it is weighed", x.mean(0, 0), 31);
        Check.due("16: below once it is weighed", x.mean(0, 1), 10);
        Check.due("16: part -1", x.mean(0, -1), OUTSIDE);
        Check.due("16: part 2", x.mean(0, 2), OUTSIDE);
    }

    private static void oddness() {
        MindReaders x = Check.withKinds();
        Check.code(x, "a,bb,ceeh");
        Check.due("17: no THING", x.oddness(0), 0);
        Check.things(x, 10, 5, 3, 9);
        Check.due("17: of all letters", x.oddness(0), 5 * 2 + 3 * 10);
        Check.due("17: UNKNOWN", x.oddness(1), UNKNOWN);
        Check.due("17: -1", x.oddness(-1), UNKNOWN);
        Check.due("17: all at most", oddest().oddness(0), 8 * 99 * 5 * 9);
    }

    private static MindReaders oddest() {
        MindReaders x = Check.with("aaaaa,aaaaa,aaaaa,aaaaa,aaaaa,aaaaa,aaaaa,aaaaa", 99, 99, 99, 99, 99, 99, 99, 99);
        x.signal(0, -1, 9, 9);
        return x;
    }

    private static void dealt() {
        MindReaders x = Check.with("aaa,a,aa,bb");
        Check.due("18: no THING", x.dealt(0, 0), STATE);
        Check.due("18: no THING, 10", x.dealt(0, 10), STATE);
        Check.things(x, 5, 9, 9);
        Check.due("18: THING 0", x.dealt(0, 10), 0);
        Check.due("18: THING 1", x.dealt(0, 11), 1);
        Check.due("18: THING 2", x.dealt(0, 12), 2);
        Check.due("18: THING 3", x.dealt(0, 13), NONE);
        Check.due("18: THING 7", x.dealt(0, 17), NONE);
        Check.due("18: above", x.dealt(0, 0), 42);
        Check.due("18: below", x.dealt(0, 1), 23);
        x.thing(5);
        Check.due("18: the least of like LONG to the heavier, 0", x.dealt(0, 10), 3);
        Check.due("18: the least of like LONG to the heavier, 2", x.dealt(0, 12), 2);
        Check.due("18: the last", x.dealt(0, 13), 0);
        x.thing(99);
        Check.due("18: a THING that is not SAID", x.dealt(0, 14), NONE);
        for (int what : new int[] {-1, 2, 9, 18, MIN, MAX}) {
            Check.due("18: what " + what, x.dealt(0, what), OUTSIDE);
        }
        Check.due("18: UNKNOWN ahead of OUTSIDE", x.dealt(1, 2), UNKNOWN);
        Check.due("18: OUTSIDE ahead of STATE", Check.with("a").dealt(0, 9), OUTSIDE);
        MindReaders y = Check.with("a,b,c", 3, 3, 3);
        y.signal(0, -1, 9, 0);
        Check.due("18: by SECONDS, 0", y.dealt(0, 10), 1);
        Check.due("18: by SECONDS, 1", y.dealt(0, 11), 2);
        Check.due("18: by SECONDS, 2", y.dealt(0, 12), 0);
        Check.due("18: dealing changes nothing", y.speech(0, 0, 1), 0);
    }

    private static void isShort(int r, int above, int below, int... weights) {
        MindReaders x = new MindReaders();
        Check.things(x, weights);
        Check.due("19: SHORT above, r = " + r, x.shortest(r, 0), above);
        Check.due("19: SHORT below, r = " + r, x.shortest(r, 1), below);
    }

    private static void shortest() {
        MindReaders x = new MindReaders();
        Check.due("19: no THINGS", x.shortest(2, 0), STATE);
        for (int r : new int[] {-1, 0, 1, 9, MIN, MAX}) {
            Check.due("19: r " + r, x.shortest(r, 0), OUTSIDE);
        }
        Check.due("19: part 2", x.shortest(2, 2), OUTSIDE);
        Check.due("19: part -1", x.shortest(2, -1), OUTSIDE);
        isShort(2, 0, 1, 7);
        isShort(8, 0, 1, 7);
        isShort(2, 1, 1, 7, 9);
        isShort(2, 3, 2, 2, 1, 1);
        isShort(3, 1, 1, 2, 1, 1);
        isShort(3, 8, 7, 40, 20, 7, 3);
        isShort(2, 3, 1, 1, 1, 1, 1, 1, 1, 1, 1);
        isShort(3, 2, 1, 1, 1, 1, 1, 1, 1, 1, 1);
        isShort(4, 7, 4, 1, 1, 1, 1, 1, 1, 1, 1);
        isShort(5, 3, 2, 1, 1, 1, 1, 1, 1, 1, 1);
        isShort(6, 11, 8, 1, 1, 1, 1, 1, 1, 1, 1);
        isShort(7, 5, 4, 1, 1, 1, 1, 1, 1, 1, 1);
        isShort(8, 1, 1, 1, 1, 1, 1, 1, 1, 1, 1);
        isShort(2, 22, 9, 1, 1, 2, 3, 5, 8, 13, 21);
    }

    private static void isApart(String code, int due) {
        MindReaders x = Check.withKinds();
        Check.code(x, code);
        Check.due("20: APART of " + code, x.apart(0), due);
    }

    private static void apart() {
        isApart("a", NONE);
        isApart("a,b", 1);
        isApart("a,ab", NONE);
        isApart("ab,ba", 2);
        isApart("aaa,bbb,abb", 1);
        isApart("aaa,bbb,aaa", 0);
        isApart("c,bb", 0);
        isApart("c,fg,gf", 2);
        isApart("d,e", 0);
        isApart("c,b", NONE);
        isApart("ccccc,bbbbb", NONE);
        isApart("ccc,fcfc,cffc", 2);
        isApart("aaaaa,bbbbb,fffff", 5);
        Check.due("20: UNKNOWN", Check.with("a").apart(1), UNKNOWN);
    }

    private static void named() {
        MindReaders x = Check.withKinds();
        Check.code(x, "aaa,bbb,ab,ffa,d,bcd");
        Check.due("21: itself", Check.named(x, 0, "bbb"), 1);
        Check.due("21: one wrong", Check.named(x, 0, "baa"), 0);
        Check.due("21: of like ones the least", Check.named(x, 0, "fbh"), 1);
        Check.due("21: none is too far", Check.named(x, 0, "hhh"), 0);
        Check.due("21: of one length alone", Check.named(x, 0, "hh"), 2);
        Check.due("21: PLAIN", Check.named(x, 0, "cba"), NONE);
        Check.due("21: PLAIN nothing", Check.named(x, 0, "ddd"), 4);
        Check.due("21: nothing", Check.named(x, 0, ""), 4);
        Check.due("21: no SPEECH of that length", Check.named(x, 0, "a"), NONE);
        Check.due("21: no row", Check.named(x, 0, "a,a"), STATE);
        Check.due("21: UNKNOWN ahead of STATE", x.named(1), UNKNOWN);
        Check.due("21: THE PAGE stays", x.count(4), 3);
    }

    private static void isRight(String code, int thing, int r, int e, long above, long below) {
        MindReaders x = Check.withKinds();
        Check.code(x, code);
        Check.things(x, 1, 1, 1, 1);
        String call = "22: RIGHT of " + thing + " of " + code + ", r = " + r + ", e = " + e;
        Check.due(call + ", above", x.right(0, thing, r, e, 0), above);
        Check.due(call + ", below", x.right(0, thing, r, e, 1), below);
    }

    private static void right() {
        isRight("a", 0, 2, 0, 1, 1);
        isRight("a", 0, 2, 10, 1, 1);
        isRight("a,b", 0, 2, 3, 7, 10);
        isRight("a,b", 1, 2, 3, 7, 10);
        isRight("a,b", 0, 2, 10, 0, 1);
        isRight("a,b", 0, 3, 2, 9, 10);
        isRight("a,b", 1, 3, 2, 4, 5);
        isRight("aaa,bbb", 0, 2, 1, 243, 250);
        isRight("aaa,bbb", 1, 2, 1, 243, 250);
        isRight("aa,bb", 0, 2, 1, 99, 100);
        isRight("aa,bb", 1, 2, 1, 81, 100);
        isRight("a,d,b", 1, 2, 5, 1, 1);
        isRight("a,d,e", 2, 2, 5, 0, 1);
        isRight("ab,ab", 1, 2, 3, 0, 1);
        isRight("c,ba", 0, 2, 1, 9, 10);
        // All eight are heard as they stand, whatever KIND they are.
        isRight("a,b,fg", 0, 8, 7, 9, 10);
        isRight("aaaa,bbbb,abab", 0, 8, 1, 11971719, 12005000);
    }

    private static void rightRefused() {
        MindReaders x = Check.with("ab,aaaaa,bc,ba,aa", 1, 1, 1);
        Check.due("22: CODE", x.right(1, 0, 2, 0, 0), UNKNOWN);
        Check.due("22: THING not told", x.right(0, 3, 2, 0, 0), UNKNOWN);
        Check.due("22: THING -1", x.right(0, -1, 2, 0, 0), UNKNOWN);
        Check.due("22: UNKNOWN ahead of OUTSIDE", x.right(0, 3, 1, 0, 0), UNKNOWN);
        Check.due("22: r 1", x.right(0, 0, 1, 0, 0), OUTSIDE);
        Check.due("22: r 9", x.right(0, 0, 9, 0, 0), OUTSIDE);
        Check.due("22: e -1", x.right(0, 0, 2, -1, 0), OUTSIDE);
        Check.due("22: e 11", x.right(0, 0, 2, 11, 0), OUTSIDE);
        Check.due("22: part -1", x.right(0, 0, 2, 0, -1), OUTSIDE);
        Check.due("22: part 2", x.right(0, 0, 2, 0, 2), OUTSIDE);
        Check.due("22: five that stand", x.right(0, 1, 2, 0, 0), STATE);
        Check.due("22: OUTSIDE ahead of STATE", x.right(0, 1, 2, 11, 0), OUTSIDE);
        Check.due("22: not among the r", x.right(0, 2, 2, 0, 0), STATE);
        Check.due("22: among the r", x.right(0, 2, 3, 0, 0), 1);
        MindReaders y = Check.with("a", 1, 1);
        Check.due("22: a THING that the CODE does not SAY", y.right(0, 1, 2, 0, 0), UNKNOWN);
    }
}
