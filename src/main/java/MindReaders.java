/**
 * Two who read minds: signals, the codes of speeches that are made of them, what a row of signals means by a code,
 * and the notes of one who looks on.
 *
 * No call ever throws: all numbers stand in rows that look at an index before they use it, and a call that is
 * refused answers UNKNOWN, OUTSIDE, STATE or FULL and changes nothing.
 */
public final class MindReaders {
    public static final int NONE = -1, UNKNOWN = -101, OUTSIDE = -102, STATE = -103, FULL = -104;

    private static final int WORD = 0, PAUSE = 1, TONED = 2, EMPTY = 3, MENDING = 4;
    private static final int MOST_SIGNALS = 8, MOST_SECONDS = 9, MOST_ODD = 9;
    private static final int MOST_THINGS = 8, MOST_WEIGHT = 99;
    private static final int MOST_CODES = 4, MOST_SPEECHES = 8, MOST_SPOKEN = 5, MOST_PLAIN = 10;
    private static final int MOST_ON_PAGE = 48, MOST_LETTER = 126;
    private static final int MOST_NOTES = 10, MOST_NOTED = 8;
    private static final int MOST_NOISY = 4, TENTHS = 10;
    private static final int MOST_WEEK = 99, MOST_STEP = 7;
    private static final int MOST_SEEN = 6, MOST_TRIES = 12, MOST_CHOICES = 9;
    private static final int ALL_STOPPED = (1 << MOST_SIGNALS) - 1;

    private final Signals signals = new Signals();
    private final Row weights = new Row(MOST_THINGS);
    private final Code[] codes = new Code[MOST_CODES];
    private int codesRead;
    private final Row page = new Row(MOST_ON_PAGE);
    private final Notes notes = new Notes();

    private final Row keptWeights = new Row(MOST_THINGS);
    private final Notes keptNotes = new Notes();
    private boolean kept;

    // Rows that calls work on: made once, since every row that a call makes would stay in the room of the run.
    private final Row said = new Row(MOST_ON_PAGE);
    private final Row heard = new Row(2 * MOST_ON_PAGE);
    private final Row pool = new Row(MOST_THINGS);
    private final Rows struck = new Rows(MOST_SPEECHES, MOST_PLAIN);
    private final Readings readings = new Readings();

    public MindReaders() {
        for (int i = 0; i < codes.length; i++) {
            codes[i] = new Code();
        }
    }

    // ---- signals, things, codes

    public int letters(long w) {
        int more = lettersIn(w);
        if (more == NONE) {
            return OUTSIDE;
        }
        if (page.size() + more > MOST_ON_PAGE) {
            return FULL;
        }
        for (int i = 0; i < more; i++) {
            page.add(byteOf(w, i));
        }
        return page.size();
    }

    public int blank() {
        int had = page.size();
        page.wipe();
        return had;
    }

    public int fault() {
        return firstFault();
    }

    public int code() {
        boolean endsInSpeech = signalOf(page.at(page.size() - 1)) != NONE;
        if (!endsInSpeech || firstFault() < page.size()) {
            return STATE;
        }
        if (codesRead < 0 || codesRead >= codes.length) {
            return FULL;
        }
        Code next = codes[codesRead];
        if (next == null) {
            return FULL;
        }
        next.readFrom(page);
        next.makePlain(signals);
        page.wipe();
        codesRead++;
        return codesRead - 1;
    }

    public int signal(int kind, int n, int seconds, int odd) {
        if (kind < WORD || kind > MENDING) {
            return OUTSIDE;
        }
        if (!signals.isToneFor(kind, n)) {
            return UNKNOWN;
        }
        if (seconds < 1 || seconds > MOST_SECONDS || odd < 0 || odd > MOST_ODD) {
            return OUTSIDE;
        }
        if (signals.told() >= MOST_SIGNALS) {
            return FULL;
        }
        signals.tell(kind, n, seconds, odd);
        // What was a WORD, since it was not told, may stand otherwise from here on.
        for (int i = 0; i < codesRead; i++) {
            Code read = codeAt(i);
            if (read != null) {
                read.makePlain(signals);
            }
        }
        return signals.told() - 1;
    }

    public int as(int signal, int kind) {
        if (!signals.isTold(signal)) {
            return UNKNOWN;
        }
        if (kind < WORD || kind > MENDING) {
            return OUTSIDE;
        }
        int own = signals.kindOf(signal);
        boolean taken = kind == own || kind == WORD || kind == PAUSE && own == TONED;
        return taken ? signal : NONE;
    }

    public int about(int signal, int what) {
        if (!signals.isTold(signal)) {
            return UNKNOWN;
        }
        switch (what) {
            case 0: return signals.kindOf(signal);
            case 1: return signals.toneOf(signal);
            case 2: return signals.secondsOf(signal);
            case 3: return signals.oddOf(signal);
            default: return OUTSIDE;
        }
    }

    public int thing(int weight) {
        if (!isWeight(weight)) {
            return OUTSIDE;
        }
        if (weights.size() >= MOST_THINGS) {
            return FULL;
        }
        weights.add(weight);
        return weights.size() - 1;
    }

    public int weigh(int thing, int v) {
        if (!isThing(thing)) {
            return UNKNOWN;
        }
        if (!isWeight(v)) {
            return OUTSIDE;
        }
        int was = weights.at(thing);
        weights.set(thing, v);
        return was;
    }

    public int speech(int code, int speech, int i) {
        Code c = codeAt(code);
        if (c == null || speech < 0 || speech >= c.size()) {
            return UNKNOWN;
        }
        if (i == 0) {
            return c.spoken(speech).size();
        }
        if (i >= 1 && i <= MOST_SPOKEN) {
            return c.spoken(speech).at(i - 1);
        }
        if (i == 10) {
            return c.plain(speech).size();
        }
        if (i > 10 && i <= 10 + MOST_PLAIN) {
            return c.plain(speech).at(i - 11);
        }
        return i == 30 ? longOf(c, speech) : OUTSIDE;
    }

    // ---- what it means

    public int means(int code) {
        Code c = codeAt(code);
        if (c == null) {
            return UNKNOWN;
        }
        return hearPage() ? c.meaningOf(heard) : STATE;
    }

    public int clear(int code, int what) {
        Code c = codeAt(code);
        if (c == null) {
            return UNKNOWN;
        }
        if (what < 0 || what > 2) {
            return OUTSIDE;
        }
        int pair = c.firstAlike();
        if (what == 0) {
            return pair == NONE ? 1 : 0;
        }
        return ofPair(pair, what - 1);
    }

    public int starts(int code, int what) {
        Code c = codeAt(code);
        if (c == null) {
            return UNKNOWN;
        }
        if (what < 0 || what > 1) {
            return OUTSIDE;
        }
        return ofPair(c.firstStart(), what);
    }

    public int twice(int code) {
        Code c = codeAt(code);
        return c == null ? UNKNOWN : readings.leastTwice(c);
    }

    public int mean(int code, int part) {
        Code c = codeAt(code);
        if (c == null) {
            return UNKNOWN;
        }
        if (!isPart(part)) {
            return OUTSIDE;
        }
        int things = thingsSaid(c);
        if (things == 0) {
            return STATE;
        }
        long above = 0;
        for (int i = 0; i < things; i++) {
            above += weights.at(i) * longOf(c, i);
        }
        return (int) lowest(above, weights.sumOf(things), part);
    }

    public int oddness(int code) {
        Code c = codeAt(code);
        if (c == null) {
            return UNKNOWN;
        }
        int things = thingsSaid(c);
        int sum = 0;
        for (int i = 0; i < things; i++) {
            sum += weights.at(i) * signals.oddOfAll(c.spoken(i));
        }
        return sum;
    }

    public int dealt(int code, int what) {
        Code c = codeAt(code);
        if (c == null) {
            return UNKNOWN;
        }
        if (!isPart(what) && (what < 10 || what >= 10 + MOST_THINGS)) {
            return OUTSIDE;
        }
        int things = thingsSaid(c);
        if (things == 0) {
            return STATE;
        }
        if (what >= 10) {
            return dealtTo(c, what - 10);
        }
        long above = 0;
        for (int i = 0; i < things; i++) {
            above += weights.at(i) * longOf(c, dealtTo(c, i));
        }
        return (int) lowest(above, weights.sumOf(things), what);
    }

    public int shortest(int r, int part) {
        if (r < 2 || r > MOST_SIGNALS || !isPart(part)) {
            return OUTSIDE;
        }
        if (weights.size() == 0) {
            return STATE;
        }
        return (int) lowest(leastLong(r), weights.sumOf(weights.size()), part);
    }

    public int apart(int code) {
        Code c = codeAt(code);
        return c == null ? UNKNOWN : c.leastApart();
    }

    public int named(int code) {
        Code c = codeAt(code);
        if (c == null) {
            return UNKNOWN;
        }
        return hearPage() ? c.nearestTo(heard) : STATE;
    }

    public long right(int code, int thing, int r, int e, int part) {
        Code c = codeAt(code);
        if (c == null || thing < 0 || thing >= thingsSaid(c)) {
            return UNKNOWN;
        }
        if (r < 2 || r > MOST_SIGNALS || e < 0 || e > TENTHS || !isPart(part)) {
            return OUTSIDE;
        }
        Row own = c.plain(thing);
        if (own.size() > MOST_NOISY || !own.isBelow(r)) {
            return STATE;
        }
        return lowest(waysNamed(c, thing, r, e), power(TENTHS * (r - 1), own.size()), part);
    }

    // ---- the looker

    public int note(int thing) {
        if (!isThing(thing)) {
            return UNKNOWN;
        }
        if (!readPage() || said.size() > MOST_NOTED) {
            return STATE;
        }
        if (notes.size() >= MOST_NOTES) {
            return FULL;
        }
        notes.add(thing, said);
        page.wipe();
        return notes.size();
    }

    public int forget() {
        int had = notes.size();
        notes.wipe();
        return had;
    }

    public int which() {
        int bits = 0;
        for (int i = 0; i < codesRead; i++) {
            Code c = codeAt(i);
            if (c != null && notesLet(c, c.size(), 0)) {
                bits |= 1 << i;
            }
        }
        return bits;
    }

    public int step(int code, int week) {
        Code c = codeAt(code);
        if (c == null) {
            return UNKNOWN;
        }
        if (week < 0 || week > MOST_WEEK) {
            return OUTSIDE;
        }
        int things = thingsSaid(c);
        if (things == 0) {
            return STATE;
        }
        for (int k = 0; k <= MOST_STEP; k++) {
            if (notesLet(c, things, k * week)) {
                return k;
            }
        }
        return NONE;
    }

    public long seen(int n, int part) {
        if (n < 1 || n > MOST_SEEN || !isPart(part)) {
            return OUTSIDE;
        }
        if (weights.size() == 0) {
            return STATE;
        }
        return lowest(waysAllSeen(n), power(weights.sumOf(weights.size()), n), part);
    }

    public int change(int from, int to) {
        Code first = codeAt(from);
        Code other = codeAt(to);
        if (first == null || other == null) {
            return UNKNOWN;
        }
        return changeOf(first, other);
    }

    public int cheapest(int code) {
        Code c = codeAt(code);
        if (c == null) {
            return UNKNOWN;
        }
        int best = NONE;
        int least = 0;
        for (int i = 0; i < codesRead; i++) {
            Code other = codeAt(i);
            if (other == null || i == code) {
                continue;
            }
            int cost = changeOf(c, other);
            if (best == NONE || cost < least) {
                best = i;
                least = cost;
            }
        }
        return best;
    }

    public long luck(int n, int k, int r, int part) {
        if (n < 1 || n > MOST_TRIES || k < 2 || k > MOST_CHOICES || r < 0 || r > n || !isPart(part)) {
            return OUTSIDE;
        }
        long ways = 0;
        for (int j = r; j <= n; j++) {
            ways += choices(n, j) * power(k - 1, n - j);
        }
        return lowest(ways, power(k, n), part);
    }

    public int left(int code, int stopped) {
        Code c = codeAt(code);
        if (c == null) {
            return UNKNOWN;
        }
        if (stopped < 0 || stopped > ALL_STOPPED) {
            return OUTSIDE;
        }
        return unlike(c, stopped, MOST_SPEECHES);
    }

    public int stop(int code) {
        Code c = codeAt(code);
        if (c == null) {
            return UNKNOWN;
        }
        for (int many = 0; many < MOST_SIGNALS; many++) {
            for (int bits = 0; bits <= ALL_STOPPED; bits++) {
                if (Integer.bitCount(bits) == many && unlike(c, bits, 2) <= 1) {
                    return bits;
                }
            }
        }
        return ALL_STOPPED;
    }

    // ---- what is told

    public int image() {
        keptWeights.copyOf(weights);
        keptNotes.copyOf(notes);
        kept = true;
        return weights.size();
    }

    public int restore() {
        if (!kept) {
            return STATE;
        }
        for (int i = 0; i < keptWeights.size(); i++) {
            weights.set(i, keptWeights.at(i));
        }
        notes.copyOf(keptNotes);
        return weights.size();
    }

    public int count(int what) {
        switch (what) {
            case 0: return signals.told();
            case 1: return weights.size();
            case 2: return codesRead;
            case 3: return notes.size();
            case 4: return page.size();
            case 5: return weights.sumOf(weights.size());
            default: return OUTSIDE;
        }
    }

    public long digest() {
        long h = 479;
        for (int i = 0; i < signals.told(); i++) {
            for (int what = 0; what <= 3; what++) {
                h = mix(h, about(i, what));
            }
        }
        h = mixRow(h, weights);
        for (int i = 0; i < codesRead; i++) {
            Code c = codeAt(i);
            if (c != null) {
                h = mixCode(h, i, c);
            }
        }
        for (int i = 0; i < notes.size(); i++) {
            h = mix(h, notes.thingOf(i));
            h = mix(h, notes.rowOf(i).size());
            h = mixRow(h, notes.rowOf(i));
        }
        h = mix(h, which());
        h = mixRow(h, page);
        for (int what = 0; what <= 5; what++) {
            h = mix(h, count(what));
        }
        return h;
    }

    private static long mix(long h, long number) {
        return 31 * h + number;
    }

    private static long mixRow(long h, Row row) {
        long mixed = h;
        for (int i = 0; i < row.size(); i++) {
            mixed = mix(mixed, row.at(i));
        }
        return mixed;
    }

    private long mixCode(long h, int code, Code c) {
        long mixed = h;
        for (int s = 0; s < c.size(); s++) {
            for (int i = 0; i <= MOST_SPOKEN; i++) {
                mixed = mix(mixed, speech(code, s, i));
            }
            mixed = mix(mixed, speech(code, s, 10));
            mixed = mix(mixed, speech(code, s, 30));
        }
        mixed = mix(mixed, clear(code, 0));
        mixed = mix(mixed, readings.leastTwice(c));
        mixed = mix(mixed, oddness(code));
        mixed = mix(mixed, apart(code));
        return mix(mixed, stop(code));
    }

    // ---- the page

    private static int byteOf(long w, int i) {
        return (int) (w >>> (8 * i) & 255L);
    }

    /** How many bytes stand ahead of the first 0; NONE, if one is no letter or stands behind a 0. */
    private static int lettersIn(long w) {
        int found = 0;
        for (int i = 0; i < 8; i++) {
            int b = byteOf(w, i);
            if (b > MOST_LETTER || b != 0 && found < i) {
                return NONE;
            }
            if (b != 0) {
                found++;
            }
        }
        return found;
    }

    /** The SIGNAL that a letter says, NONE if it is not one from a to h. */
    private static int signalOf(int letter) {
        return letter >= 'a' && letter <= 'h' ? letter - 'a' : NONE;
    }

    private int firstFault() {
        int commas = 0;
        int length = 0;
        for (int i = 0; i < page.size(); i++) {
            int letter = page.at(i);
            if (signalOf(letter) != NONE && length < MOST_SPOKEN) {
                length++;
            } else if (letter == ',' && length > 0 && commas < MOST_SPEECHES - 1) {
                commas++;
                length = 0;
            } else {
                return i;
            }
        }
        return page.size();
    }

    /** Whether THE PAGE is a row of letters a to h; its SIGNALS stand in said then. */
    private boolean readPage() {
        said.wipe();
        for (int i = 0; i < page.size(); i++) {
            int signal = signalOf(page.at(i));
            if (signal == NONE) {
                return false;
            }
            said.add(signal);
        }
        return true;
    }

    /** As readPage(); the row, PLAIN, stands in heard then. */
    private boolean hearPage() {
        if (!readPage()) {
            return false;
        }
        signals.makePlain(said, 0, heard);
        return true;
    }

    // ---- things and codes

    private static boolean isWeight(int v) {
        return v >= 1 && v <= MOST_WEIGHT;
    }

    private static boolean isPart(int part) {
        return part == 0 || part == 1;
    }

    private boolean isThing(int thing) {
        return thing >= 0 && thing < weights.size();
    }

    /** The CODE of that number, null if there is none. */
    private Code codeAt(int code) {
        return code >= 0 && code < codesRead && code < codes.length ? codes[code] : null;
    }

    /** How many THINGS that there are a CODE SAYS: it says those of the least numbers. */
    private int thingsSaid(Code c) {
        return Math.min(c.size(), weights.size());
    }

    private int longOf(Code c, int speech) {
        return signals.secondsOfAll(c.spoken(speech));
    }

    private static int ofPair(int pair, int which) {
        if (pair == NONE) {
            return NONE;
        }
        return which == 0 ? pair / MOST_SPEECHES : pair % MOST_SPEECHES;
    }

    /** The SPEECH that a THING is DEALT: the one that comes as late by LONG as the THING by WEIGHT. */
    private int dealtTo(Code c, int thing) {
        int things = thingsSaid(c);
        if (thing < 0 || thing >= things) {
            return NONE;
        }
        int rank = 0;
        for (int i = 0; i < things; i++) {
            if (isAhead(-weights.at(i), i, -weights.at(thing), thing)) {
                rank++;
            }
        }
        for (int speech = 0; speech < things; speech++) {
            if (rankByLong(c, speech, things) == rank) {
                return speech;
            }
        }
        return NONE;
    }

    private int rankByLong(Code c, int speech, int speeches) {
        int rank = 0;
        for (int i = 0; i < speeches; i++) {
            if (isAhead(longOf(c, i), i, longOf(c, speech), speech)) {
                rank++;
            }
        }
        return rank;
    }

    private static boolean isAhead(int size, int number, int otherSize, int otherNumber) {
        return size < otherSize || size == otherSize && number < otherNumber;
    }

    private int changeOf(Code first, Code other) {
        int sum = 0;
        for (int i = 0; i < other.size(); i++) {
            if (i >= first.size() || !first.spoken(i).isLike(other.spoken(i))) {
                sum += longOf(other, i);
            }
        }
        return sum;
    }

    /** Whether each NOTE's row is the SPEECH of its THING, moved on by so many of the THINGS from 0 on. */
    private boolean notesLet(Code c, int things, int moved) {
        for (int i = 0; i < notes.size(); i++) {
            int thing = notes.thingOf(i);
            if (thing < 0 || thing >= things) {
                return false;
            }
            signals.makePlain(notes.rowOf(i), 0, heard);
            if (!heard.isLike(c.plain((thing + moved) % things))) {
                return false;
            }
        }
        return true;
    }

    // ---- chances

    /** WEIGHT times LONG of the best SPEECHES of r SIGNALS: the r lightest are put together until one is left. */
    private long leastLong(int r) {
        pool.copyOf(weights);
        if (pool.size() < 2 || r < 2) {
            return 0;
        }
        long sum = 0;
        // Taking fewer the first time leaves a number that r at a time use up.
        int taken = 2 + (pool.size() - 2) % (r - 1);
        for (int round = 0; round < MOST_THINGS && pool.size() > 1; round++) {
            int together = 0;
            for (int i = 0; i < taken; i++) {
                together += pool.takeLeast();
            }
            pool.add(together);
            sum += together;
            taken = r;
        }
        return sum;
    }

    /** In how many of (10 times r less 1) to the length ways the THING is NAMED, when its SPEECH is heard in noise. */
    private long waysNamed(Code c, int thing, int r, int e) {
        Row own = c.plain(thing);
        heard.wipe();
        for (int i = 0; i < own.size(); i++) {
            heard.add(0);
        }
        long ways = 0;
        long rows = power(r, own.size());
        for (int row = 0; row < rows; row++) {
            long heardSo = waysHeard(own, r, e);
            if (heardSo > 0 && c.nearestTo(heard) == thing) {
                ways += heardSo;
            }
            heard.turn(r);
        }
        return ways;
    }

    private long waysHeard(Row own, int r, int e) {
        long ways = 1;
        for (int i = 0; i < own.size(); i++) {
            ways *= heard.at(i) == own.at(i) ? (TENTHS - e) * (r - 1) : e;
        }
        return ways;
    }

    /** In how many ways, by WEIGHTS, n that are handed up have all THINGS among them: each set of THINGS in turn. */
    private long waysAllSeen(int n) {
        int things = weights.size();
        if (things > n) {
            return 0;
        }
        long ways = 0;
        for (int set = 0; set < 1 << things; set++) {
            int weight = 0;
            for (int i = 0; i < things; i++) {
                weight += (set >> i & 1) * weights.at(i);
            }
            boolean added = (things - Integer.bitCount(set)) % 2 == 0;
            ways += added ? power(weight, n) : -power(weight, n);
        }
        return ways;
    }

    /** In how many ways k of n are chosen. */
    private static long choices(int n, int k) {
        long ways = 1;
        for (int i = 1; i <= k; i++) {
            ways = ways * (n - k + i) / i;
        }
        return ways;
    }

    private static long power(long base, int times) {
        long product = 1;
        for (int i = 0; i < times; i++) {
            product *= base;
        }
        return product;
    }

    /** A part of above by below in lowest terms; neither is less than 0. */
    private static long lowest(long above, long below, int part) {
        long a = above;
        long b = below;
        // Two rounds at least halve a, so a long is through within this bound.
        for (int i = 0; i < 128 && b != 0; i++) {
            long rest = a % b;
            a = b;
            b = rest;
        }
        if (a == 0) {
            return 0;
        }
        return part == 0 ? above / a : below / a;
    }

    // ---- stopped signals

    /** How many SPEECHES are unlike, PLAIN, without the stopped SIGNALS; it counts no further than enough. */
    private int unlike(Code c, int stopped, int enough) {
        int found = 0;
        for (int i = 0; i < c.size() && found < enough; i++) {
            signals.makePlain(c.spoken(i), stopped, struck.row(i));
            boolean fresh = true;
            for (int j = 0; j < i && fresh; j++) {
                fresh = !struck.row(j).isLike(struck.row(i));
            }
            if (fresh) {
                found++;
            }
        }
        return found;
    }

    /** A row of numbers up to a length; where it has none it tells NONE. */
    private static final class Row {
        private final int[] cells;
        private int size;

        Row(int most) {
            cells = new int[Math.max(most, 0)];
        }

        int size() {
            return size;
        }

        int at(int i) {
            return i >= 0 && i < size && i < cells.length ? cells[i] : NONE;
        }

        void set(int i, int v) {
            if (i >= 0 && i < size && i < cells.length) {
                cells[i] = v;
            }
        }

        void add(int v) {
            if (size >= 0 && size < cells.length) {
                cells[size] = v;
                size++;
            }
        }

        void dropLast() {
            if (size > 0) {
                size--;
            }
        }

        void wipe() {
            size = 0;
        }

        void copyOf(Row other) {
            wipe();
            for (int i = 0; i < other.size(); i++) {
                add(other.at(i));
            }
        }

        boolean isLike(Row other) {
            return size == other.size() && isStartOf(other);
        }

        boolean isStartOf(Row other) {
            for (int i = 0; i < size; i++) {
                if (at(i) != other.at(i)) {
                    return false;
                }
            }
            return true;
        }

        /** In how many places it differs from another one of its length. */
        int placesApart(Row other) {
            int places = 0;
            for (int i = 0; i < size; i++) {
                if (at(i) != other.at(i)) {
                    places++;
                }
            }
            return places;
        }

        boolean isBelow(int bound) {
            for (int i = 0; i < size; i++) {
                if (at(i) >= bound) {
                    return false;
                }
            }
            return true;
        }

        /** All of the first so many together. */
        int sumOf(int many) {
            int sum = 0;
            for (int i = 0; i < many && i < size; i++) {
                sum += at(i);
            }
            return sum;
        }

        /** Takes the least one out (the rest may stand in another order then): what it was, 0 if there is none. */
        int takeLeast() {
            if (size <= 0) {
                return 0;
            }
            int place = 0;
            for (int i = 1; i < size; i++) {
                if (at(i) < at(place)) {
                    place = i;
                }
            }
            int least = at(place);
            set(place, at(size - 1));
            dropLast();
            return least;
        }

        /** Goes on to the next of all rows of this length of the numbers below r, as a counter turns. */
        void turn(int r) {
            for (int i = 0; i < size; i++) {
                int next = at(i) + 1;
                if (next < r) {
                    set(i, next);
                    return;
                }
                set(i, 0);
            }
        }
    }

    /** So many rows of one limit; a number that has no row has an empty one. */
    private static final class Rows {
        private final Row[] rows;
        private final Row nothing = new Row(0);

        Rows(int many, int most) {
            rows = new Row[Math.max(many, 0)];
            for (int i = 0; i < rows.length; i++) {
                rows[i] = new Row(most);
            }
        }

        Row row(int i) {
            Row found = i >= 0 && i < rows.length ? rows[i] : null;
            return found == null ? nothing : found;
        }
    }

    /** The SIGNALS that are told; one that is not told is a WORD of 1 SECOND, ODD 0. */
    private static final class Signals {
        private final Row kinds = new Row(MOST_SIGNALS);
        private final Row tones = new Row(MOST_SIGNALS);
        private final Row seconds = new Row(MOST_SIGNALS);
        private final Row odds = new Row(MOST_SIGNALS);

        int told() {
            return kinds.size();
        }

        boolean isTold(int signal) {
            return signal >= 0 && signal < kinds.size();
        }

        void tell(int kind, int n, int second, int odd) {
            kinds.add(kind);
            tones.add(n);
            seconds.add(second);
            odds.add(odd);
        }

        int kindOf(int signal) {
            int kind = kinds.at(signal);
            return kind == NONE ? WORD : kind;
        }

        int toneOf(int signal) {
            return tones.at(signal);
        }

        int secondsOf(int signal) {
            int second = seconds.at(signal);
            return second == NONE ? 1 : second;
        }

        int oddOf(int signal) {
            int odd = odds.at(signal);
            return odd == NONE ? 0 : odd;
        }

        boolean isToneFor(int kind, int n) {
            if (kind != TONED) {
                return n == NONE;
            }
            return isTold(n) && (kindOf(n) == WORD || kindOf(n) == PAUSE);
        }

        int secondsOfAll(Row row) {
            int sum = 0;
            for (int i = 0; i < row.size(); i++) {
                sum += secondsOf(row.at(i));
            }
            return sum;
        }

        int oddOfAll(Row row) {
            int sum = 0;
            for (int i = 0; i < row.size(); i++) {
                sum += oddOf(row.at(i));
            }
            return sum;
        }

        /** Puts the row, PLAIN, into the other one; the stopped SIGNALS (bits) are struck out ahead. */
        void makePlain(Row row, int stopped, Row into) {
            into.wipe();
            for (int i = 0; i < row.size(); i++) {
                int signal = row.at(i);
                if ((stopped >> signal & 1) != 0) {
                    continue;
                }
                int kind = kindOf(signal);
                if (kind == WORD || kind == PAUSE) {
                    into.add(signal);
                } else if (kind == TONED) {
                    into.add(toneOf(signal));
                    into.add(toneOf(signal));
                } else if (kind == MENDING) {
                    into.dropLast();
                }
            }
        }
    }

    /** A CODE: its SPEECHES as they are spoken and as they stand, PLAIN. Pairs are the first times 8 and the second. */
    private static final class Code {
        private final Rows spoken = new Rows(MOST_SPEECHES, MOST_SPOKEN);
        private final Rows plain = new Rows(MOST_SPEECHES, MOST_PLAIN);
        private int size;

        int size() {
            return size;
        }

        Row spoken(int speech) {
            return spoken.row(speech);
        }

        Row plain(int speech) {
            return plain.row(speech);
        }

        /** Reads the SPEECHES off a text that is a CODE. */
        void readFrom(Row text) {
            size = 1;
            for (int i = 0; i < text.size(); i++) {
                int signal = signalOf(text.at(i));
                if (signal == NONE) {
                    size++;
                } else {
                    spoken(size - 1).add(signal);
                }
            }
        }

        void makePlain(Signals signals) {
            for (int i = 0; i < size; i++) {
                signals.makePlain(spoken(i), 0, plain(i));
            }
        }

        int meaningOf(Row row) {
            for (int i = 0; i < size; i++) {
                if (plain(i).isLike(row)) {
                    return i;
                }
            }
            return NONE;
        }

        int firstAlike() {
            for (int i = 0; i < size; i++) {
                for (int j = i + 1; j < size; j++) {
                    if (plain(i).isLike(plain(j))) {
                        return i * MOST_SPEECHES + j;
                    }
                }
            }
            return NONE;
        }

        int firstStart() {
            for (int i = 0; i < size; i++) {
                for (int j = 0; j < size; j++) {
                    if (plain(i).size() < plain(j).size() && plain(i).isStartOf(plain(j))) {
                        return i * MOST_SPEECHES + j;
                    }
                }
            }
            return NONE;
        }

        int leastApart() {
            int least = NONE;
            for (int i = 0; i < size; i++) {
                if (plain(i).size() != plain(0).size()) {
                    return NONE;
                }
                for (int j = 0; j < i; j++) {
                    int places = plain(i).placesApart(plain(j));
                    if (least == NONE || places < least) {
                        least = places;
                    }
                }
            }
            return least;
        }

        int nearestTo(Row row) {
            int nearest = NONE;
            int least = 0;
            for (int i = 0; i < size; i++) {
                if (plain(i).size() != row.size()) {
                    continue;
                }
                int places = plain(i).placesApart(row);
                if (nearest == NONE || places < least) {
                    nearest = i;
                    least = places;
                }
            }
            return nearest;
        }
    }

    /** NOTES: rows as they were said (what they stand for may change yet) and their THINGS. */
    private static final class Notes {
        private final Row things = new Row(MOST_NOTES);
        private final Rows rows = new Rows(MOST_NOTES, MOST_NOTED);

        int size() {
            return things.size();
        }

        int thingOf(int i) {
            return things.at(i);
        }

        Row rowOf(int i) {
            return rows.row(i);
        }

        void add(int thing, Row row) {
            rows.row(things.size()).copyOf(row);
            things.add(thing);
        }

        void wipe() {
            things.wipe();
        }

        void copyOf(Notes other) {
            wipe();
            for (int i = 0; i < other.size(); i++) {
                add(other.thingOf(i), other.rowOf(i));
            }
        }
    }

    /**
     * Finds the shortest row that can be read in two ways. Two readings of one start are put together, the one that
     * is behind is given the next SPEECH; what the other one is ahead by is always the tail of a SPEECH.
     */
    private static final class Readings {
        private static final int TAILS = MOST_SPEECHES * MOST_PLAIN;
        private static final int FAR = 1000000;

        private final Row lengths = new Row(TAILS);
        private int best;

        /** TWICE of a CODE, NONE if there is no such row. */
        int leastTwice(Code c) {
            best = FAR;
            lengths.wipe();
            for (int i = 0; i < TAILS; i++) {
                lengths.add(FAR);
            }
            for (int i = 0; i < c.size(); i++) {
                for (int j = i + 1; j < c.size(); j++) {
                    meet(c, i, 0, j, c.plain(i).size());
                }
            }
            boolean shorter = true;
            // A shortest way comes to no tail twice.
            for (int round = 0; round <= TAILS && shorter; round++) {
                shorter = goOn(c);
            }
            return best < FAR ? best : NONE;
        }

        /** Goes on by one SPEECH from all tails that are come to: whether one is come to sooner. */
        private boolean goOn(Code c) {
            boolean shorter = false;
            for (int tail = 0; tail < TAILS; tail++) {
                int length = lengths.at(tail);
                for (int k = 0; k < c.size() && length < FAR; k++) {
                    if (meet(c, tail / MOST_PLAIN, tail % MOST_PLAIN, k, length)) {
                        shorter = true;
                    }
                }
            }
            return shorter;
        }

        /** Puts SPEECH k against the tail of SPEECH i, the row being so long: whether a tail is come to sooner. */
        private boolean meet(Code c, int i, int from, int k, int length) {
            Row ahead = c.plain(i);
            Row next = c.plain(k);
            int tail = ahead.size() - from;
            if (tail <= 0 || next.size() == 0) {
                return false;
            }
            for (int at = 0; at < tail && at < next.size(); at++) {
                if (ahead.at(from + at) != next.at(at)) {
                    return false;
                }
            }
            if (tail == next.size()) {
                best = Math.min(best, length);
                return false;
            }
            if (tail > next.size()) {
                return comeTo(i, from + next.size(), length);
            }
            return comeTo(k, tail, length + next.size() - tail);
        }

        private boolean comeTo(int i, int from, int length) {
            int tail = i * MOST_PLAIN + from;
            if (length >= lengths.at(tail)) {
                return false;
            }
            lengths.set(tail, length);
            return true;
        }
    }
}
