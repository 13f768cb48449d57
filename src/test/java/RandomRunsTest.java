import java.util.Random;

/** Runs of calls, always the same ones, whose answers are compared with those of the Oracle. */
public final class RandomRunsTest {
    private static final int RUNS = 400;
    private static final int CALLS = 512;
    private static final int[] WILD = {Integer.MIN_VALUE, -2, -1, 0, 1, 2, 3, 9, 10, 11, 99, 100, 255, 256, Integer.MAX_VALUE};

    private final Random random;
    private final MindReaders x = new MindReaders();
    private final Oracle o = new Oracle();
    private final String letters;

    private RandomRunsTest(int seed) {
        random = new Random(seed);
        letters = "abcdefgh".substring(0, 1 + random.nextInt(8));
    }

    public static void main(String[] args) {
        for (int seed = 0; seed < RUNS && !Check.isWrong(); seed++) {
            RandomRunsTest run = new RandomRunsTest(seed);
            for (int i = 0; i < CALLS && !Check.isWrong(); i++) {
                run.call("run " + seed + ", call " + i + ": ", i);
            }
        }
        Check.end("RandomRunsTest");
    }

    /** A number from low to high, now and then a wild one. */
    private int some(int low, int high) {
        if (random.nextInt(25) == 0) {
            return WILD[random.nextInt(WILD.length)];
        }
        return low + random.nextInt(high - low + 1);
    }

    private String row(int most) {
        StringBuilder row = new StringBuilder();
        int length = random.nextInt(most + 1);
        for (int i = 0; i < length; i++) {
            row.append(letters.charAt(random.nextInt(letters.length())));
        }
        return row.toString();
    }

    private String codeText() {
        StringBuilder text = new StringBuilder();
        int speeches = 1 + random.nextInt(8);
        int most = 1 + random.nextInt(5);
        for (int i = 0; i < speeches; i++) {
            text.append(i == 0 ? "" : ",").append(row(most));
            if (random.nextInt(20) != 0) {
                text.append(letters.charAt(0));
            }
        }
        return text.toString();
    }

    private void write(String at, String text) {
        if (random.nextInt(3) != 0) {
            Check.due(at + "blank()", x.blank(), o.blank());
        }
        for (int i = 0; i < text.length(); i += 8) {
            long w = Check.bytes(text.substring(i, Math.min(text.length(), i + 8)));
            Check.due(at + "letters(" + w + ")", x.letters(w), o.letters(w));
        }
    }

    private long anyLong() {
        switch (random.nextInt(4)) {
            case 0: return random.nextLong();
            case 1: return random.nextInt(300);
            case 2: return random.nextLong() & 0x7f7f7f7f7f7f7f7fL;
            default: return Check.bytes(row(8)) ^ (random.nextInt(5) == 0 ? 0x2c00L : 0);
        }
    }

    private void call(String at, int i) {
        // What makes things comes more often at first.
        int kind = i < 60 ? random.nextInt(14) : random.nextInt(42);
        if (kind < 10) {
            tell(at, kind);
        } else if (kind < 14) {
            look(at, kind);
        } else if (kind < 28) {
            ask(at, kind);
        } else {
            askMore(at, kind);
        }
    }

    private void tell(String at, int kind) {
        int a = some(0, 4);
        int b = a == 2 ? some(0, 7) : some(-1, -1);
        int c = some(1, 9);
        int d = some(0, 9);
        switch (kind) {
            case 0:
                if (random.nextInt(8) == 0) {
                    Check.due(at + "signal " + a + " " + b + " " + c + " " + d, x.signal(a, b, c, d), o.signal(a, b, c, d));
                }
                break;
            case 1: {
                int w = some(1, random.nextBoolean() ? 99 : 4);
                if (random.nextInt(3) == 0) {
                    Check.due(at + "thing " + w, x.thing(w), o.thing(w));
                }
                break;
            }
            case 2:
            case 3:
                write(at, codeText());
                Check.due(at + "fault", x.fault(), o.fault());
                if (random.nextInt(4) == 0) {
                    Check.due(at + "code", x.code(), o.code());
                }
                break;
            case 4: {
                long w = anyLong();
                Check.due(at + "letters " + w, x.letters(w), o.letters(w));
                Check.due(at + "fault", x.fault(), o.fault());
                break;
            }
            case 5:
            case 6:
                note(at);
                break;
            case 7: {
                int t = some(0, 7);
                int v = some(1, 99);
                Check.due(at + "weigh " + t + " " + v, x.weigh(t, v), o.weigh(t, v));
                break;
            }
            case 8: Check.due(at + "image", x.image(), o.image()); break;
            default:
                if (random.nextBoolean()) {
                    Check.due(at + "restore", x.restore(), o.restore());
                } else if (random.nextInt(3) == 0) {
                    Check.due(at + "forget", x.forget(), o.forget());
                }
                break;
        }
    }

    private void note(String at) {
        int thing = some(0, Math.max(0, x.count(1) - 1));
        String said = row(random.nextInt(10) == 0 ? 10 : 5);
        // A row that a CODE has makes notes that let something be.
        int code = some(0, 3);
        if (x.speech(code, thing, 0) > 0 && random.nextInt(4) != 0) {
            StringBuilder text = new StringBuilder();
            int spoken = x.speech(code, (thing + random.nextInt(2)) % 8, 0) > 0 ? thing : 0;
            for (int i = 1; i <= Math.max(0, x.speech(code, spoken, 0)); i++) {
                text.append((char) ('a' + x.speech(code, spoken, i)));
            }
            said = text.toString();
        }
        write(at, said);
        Check.due(at + "note " + thing, x.note(thing), o.note(thing));
        Check.due(at + "which", x.which(), o.which());
    }

    private void look(String at, int kind) {
        switch (kind) {
            case 10: Check.due(at + "digest", x.digest(), o.digest()); break;
            case 11: {
                int what = some(0, 5);
                Check.due(at + "count " + what, x.count(what), o.count(what));
                break;
            }
            case 12: {
                int s = some(0, 7);
                int k = some(0, 4);
                Check.due(at + "as " + s + " " + k, x.as(s, k), o.as(s, k));
                break;
            }
            default: {
                int s = some(0, 7);
                int k = some(0, 3);
                Check.due(at + "about " + s + " " + k, x.about(s, k), o.about(s, k));
                break;
            }
        }
    }

    private int anyCode() {
        return some(0, Math.max(0, x.count(2) - 1));
    }

    private void ask(String at, int kind) {
        int code = anyCode();
        int what = some(0, 2);
        int part = some(0, 1);
        switch (kind) {
            case 14:
            case 15: {
                int s = some(0, 7);
                int i = some(0, 31);
                Check.due(at + "speech " + code + " " + s + " " + i, x.speech(code, s, i), o.speech(code, s, i));
                break;
            }
            case 16:
            case 17:
                write(at, row(random.nextBoolean() ? 4 : 12));
                Check.due(at + "means " + code, x.means(code), o.means(code));
                Check.due(at + "named " + code, x.named(code), o.named(code));
                break;
            case 18: Check.due(at + "clear " + code + " " + what, x.clear(code, what), o.clear(code, what)); break;
            case 19: Check.due(at + "starts " + code + " " + part, x.starts(code, part), o.starts(code, part)); break;
            case 20: twice(at, code); break;
            case 21: Check.due(at + "mean " + code + " " + part, x.mean(code, part), o.mean(code, part)); break;
            case 22: Check.due(at + "oddness " + code, x.oddness(code), o.oddness(code)); break;
            case 23: {
                int d = random.nextInt(15) == 0 ? part : some(10, 17);
                Check.due(at + "dealt " + code + " " + d, x.dealt(code, d), o.dealt(code, d));
                break;
            }
            case 24: {
                int r = some(2, 8);
                if (random.nextInt(4) == 0) {
                    Check.due(at + "shortest " + r + " " + part, x.shortest(r, part), o.shortest(r, part));
                }
                break;
            }
            case 25: Check.due(at + "apart " + code, x.apart(code), o.apart(code)); break;
            default: right(at, code, part); break;
        }
    }

    private void twice(String at, int code) {
        int due = o.twice(code);
        Check.due(at + "twice " + code, x.twice(code), due);
        if (due >= NONE) {
            int rows = o.twiceByRows(code, 8);
            if (rows != -2) {
                Check.due(at + "twice by rows " + code, rows, due <= 8 ? due : NONE);
            }
        }
    }

    private static final int NONE = -1;

    private void right(String at, int code, int part) {
        int thing = some(0, Math.max(0, x.count(1) - 1));
        int r = some(2, random.nextInt(8) == 0 ? 8 : 3);
        int e = some(0, 10);
        String call = at + "right " + code + " " + thing + " " + r + " " + e + " " + part;
        Check.due(call, x.right(code, thing, r, e, part), o.right(code, thing, r, e, part));
    }

    private void askMore(String at, int kind) {
        int code = anyCode();
        int part = some(0, 1);
        switch (kind) {
            case 28:
            case 29:
            case 30: {
                int week = some(0, 99);
                Check.due(at + "step " + code + " " + week, x.step(code, week), o.step(code, week));
                break;
            }
            case 31:
            case 32: {
                int n = some(1, 6);
                Check.due(at + "seen " + n + " " + part, x.seen(n, part), o.seen(n, part));
                break;
            }
            case 33: {
                int to = anyCode();
                Check.due(at + "change " + code + " " + to, x.change(code, to), o.change(code, to));
                break;
            }
            case 34: Check.due(at + "cheapest " + code, x.cheapest(code), o.cheapest(code)); break;
            case 35: {
                int n = some(1, 12);
                int k = some(2, 9);
                int r = some(0, 12);
                Check.due(at + "luck " + n + " " + k + " " + r + " " + part, x.luck(n, k, r, part), o.luck(n, k, r, part));
                break;
            }
            case 36:
            case 37: {
                int bits = some(0, 255);
                Check.due(at + "left " + code + " " + bits, x.left(code, bits), o.left(code, bits));
                break;
            }
            case 38: Check.due(at + "stop " + code, x.stop(code), o.stop(code)); break;
            case 39: Check.due(at + "which", x.which(), o.which()); break;
            default: right(at, code, part); break;
        }
    }
}
