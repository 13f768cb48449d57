import java.lang.management.ManagementFactory;

/** The room of a run: no call makes objects, so that 512 calls of any kind stay far below what a run may make. */
public final class RoomTest {
    private static final int CALLS = 512;
    private static final long MOST_BYTES = 200_000;

    public static void main(String[] args) {
        everyCall(full());
        MindReaders x = full();
        long before = made();
        for (int i = 0; i < CALLS; i++) {
            everyCall(x);
        }
        long bytes = made() - before;
        Check.holds(CALLS + " calls of each kind make " + bytes + " bytes", bytes < MOST_BYTES);
        before = made();
        MindReaders fresh = new MindReaders();
        bytes = made() - before;
        Check.due("a new one is used", fresh.count(0), 0);
        Check.holds("a new one takes " + bytes + " bytes", bytes < MOST_BYTES);
        Check.end("RoomTest");
    }

    private static long made() {
        return ((com.sun.management.ThreadMXBean) ManagementFactory.getThreadMXBean())
            .getThreadAllocatedBytes(Thread.currentThread().getId());
    }

    /** One that has as much of all as there can be. */
    private static MindReaders full() {
        MindReaders x = Check.withKinds();
        x.signal(0, -1, 9, 9);
        x.signal(2, 0, 9, 9);
        x.signal(2, 1, 9, 9);
        Check.things(x, 99, 98, 97, 96, 95, 94, 93, 92);
        Check.code(x, "cchhg,ggggg,hhhhh,ccccc,ghgcc,aaaaa,fffff,bbbbb");
        Check.code(x, "aaaa,bbbb,ffff,abaf,faba,bfab,abab,baba");
        Check.code(x, "fgh,hgf,fff,ggg,hhh,f,g,h");
        Check.code(x, "aaabb,aabab,abaab,baaab,bbaab,babab,abbab,aaaba");
        for (int i = 0; i < 10; i++) {
            Check.note(x, 0, "gggggggg");
        }
        return x;
    }

    private static void everyCall(MindReaders x) {
        x.image();
        x.forget();
        x.restore();
        for (int code = 0; code < 4; code++) {
            page(x);
            x.means(code);
            x.named(code);
            x.clear(code, 1);
            x.starts(code, 0);
            x.twice(code);
            x.mean(code, 0);
            x.oddness(code);
            x.dealt(code, 0);
            x.apart(code);
            x.step(code, 99);
            x.change(code, 3 - code);
            x.cheapest(code);
            x.left(code, 1);
            x.stop(code);
        }
        x.right(1, 3, 8, 5, 0);
        x.shortest(2, 0);
        x.seen(6, 0);
        x.luck(12, 9, 1, 0);
        x.which();
        x.note(0);
        x.code();
        x.fault();
        x.signal(0, -1, 1, 1);
        x.thing(1);
        x.weigh(7, 92);
        x.digest();
    }

    private static void page(MindReaders x) {
        x.blank();
        for (int i = 0; i < 6; i++) {
            x.letters(0x6767676767676767L);
        }
    }
}
