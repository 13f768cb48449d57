import java.math.BigInteger;
import java.util.ArrayList;
import java.util.Arrays;
import java.util.HashMap;
import java.util.HashSet;
import java.util.List;
import java.util.Map;
import java.util.PriorityQueue;
import java.util.Set;
import java.util.regex.Pattern;

/** The document once more, over texts and by trying all that can be; slow, and written apart from the class. */
final class Oracle {
    static final int NONE = -1, UNKNOWN = -101, OUTSIDE = -102, STATE = -103, FULL = -104;
    private static final Pattern CODE = Pattern.compile("[a-h]{1,5}(,[a-h]{1,5}){0,7}");

    private record Signal(int kind, int n, int seconds, int odd) {
    }

    private record Note(int thing, String row) {
    }

    private final List<Signal> signals = new ArrayList<>();
    private final List<Integer> weights = new ArrayList<>();
    private final List<String[]> codes = new ArrayList<>();
    private List<Note> notes = new ArrayList<>();
    private String page = "";
    private List<Integer> keptWeights;
    private List<Note> keptNotes;

    int letters(long w) {
        StringBuilder more = new StringBuilder();
        boolean ended = false;
        for (int i = 0; i < 8; i++) {
            int b = (int) ((w >>> (i * 8)) & 0xff);
            if (b > 126 || ended && b != 0) {
                return OUTSIDE;
            }
            ended |= b == 0;
            if (!ended) {
                more.append((char) b);
            }
        }
        if ((page + more).length() > 48) {
            return FULL;
        }
        page += more;
        return page.length();
    }

    int blank() {
        int had = page.length();
        page = "";
        return had;
    }

    int fault() {
        for (int i = 0; i < page.length(); i++) {
            String ahead = page.substring(0, i + 1);
            // Behind a comma a letter makes it a CODE; if that does not, nothing does.
            if (!CODE.matcher(ahead).matches() && !CODE.matcher(ahead + "a").matches()) {
                return i;
            }
        }
        return page.length();
    }

    int code() {
        if (!CODE.matcher(page).matches()) {
            return STATE;
        }
        if (codes.size() == 4) {
            return FULL;
        }
        codes.add(page.split(","));
        page = "";
        return codes.size() - 1;
    }

    int signal(int kind, int n, int seconds, int odd) {
        if (kind < 0 || kind > 4) {
            return OUTSIDE;
        }
        boolean toned = n >= 0 && n < signals.size() && signals.get(n).kind() < 2;
        if (kind == 2 ? !toned : n != NONE) {
            return UNKNOWN;
        }
        if (seconds < 1 || seconds > 9 || odd < 0 || odd > 9) {
            return OUTSIDE;
        }
        if (signals.size() == 8) {
            return FULL;
        }
        signals.add(new Signal(kind, n, seconds, odd));
        return signals.size() - 1;
    }

    int as(int signal, int kind) {
        if (signal < 0 || signal >= signals.size()) {
            return UNKNOWN;
        }
        if (kind < 0 || kind > 4) {
            return OUTSIDE;
        }
        Set<Integer> kinds = new HashSet<>(List.of(0));
        kinds.add(signals.get(signal).kind());
        if (kinds.contains(2)) {
            kinds.add(1);
        }
        return kinds.contains(kind) ? signal : NONE;
    }

    int about(int signal, int what) {
        if (signal < 0 || signal >= signals.size()) {
            return UNKNOWN;
        }
        Signal s = signals.get(signal);
        return what == 0 ? s.kind() : what == 1 ? s.n() : what == 2 ? s.seconds() : what == 3 ? s.odd() : OUTSIDE;
    }

    int thing(int weight) {
        if (weight < 1 || weight > 99) {
            return OUTSIDE;
        }
        if (weights.size() == 8) {
            return FULL;
        }
        weights.add(weight);
        return weights.size() - 1;
    }

    int weigh(int thing, int v) {
        if (thing < 0 || thing >= weights.size()) {
            return UNKNOWN;
        }
        return v < 1 || v > 99 ? OUTSIDE : weights.set(thing, v);
    }

    private Signal told(char letter) {
        int s = letter - 'a';
        return s < signals.size() ? signals.get(s) : new Signal(0, NONE, 1, 0);
    }

    private String plain(String row) {
        String stands = "";
        for (char letter : row.toCharArray()) {
            Signal s = told(letter);
            switch (s.kind()) {
                case 0, 1 -> stands += letter;
                case 2 -> stands += ("" + (char) ('a' + s.n())).repeat(2);
                case 4 -> stands = stands.isEmpty() ? "" : stands.substring(0, stands.length() - 1);
                default -> { }
            }
        }
        return stands;
    }

    private int longOf(String row) {
        return row.chars().map(c -> told((char) c).seconds()).sum();
    }

    private boolean isCode(int code) {
        return code >= 0 && code < codes.size();
    }

    private String[] plains(int code) {
        return Arrays.stream(codes.get(code)).map(this::plain).toArray(String[]::new);
    }

    int speech(int code, int speech, int i) {
        if (!isCode(code) || speech < 0 || speech >= codes.get(code).length) {
            return UNKNOWN;
        }
        String row = codes.get(code)[speech];
        if (i == 0) {
            return row.length();
        }
        if (i >= 1 && i <= 5) {
            return i <= row.length() ? row.charAt(i - 1) - 'a' : NONE;
        }
        if (i == 10) {
            return plain(row).length();
        }
        if (i >= 11 && i <= 20) {
            return i - 10 <= plain(row).length() ? plain(row).charAt(i - 11) - 'a' : NONE;
        }
        return i == 30 ? longOf(row) : OUTSIDE;
    }

    private boolean isRow() {
        return page.matches("[a-h]*");
    }

    int means(int code) {
        if (!isCode(code)) {
            return UNKNOWN;
        }
        return isRow() ? Arrays.asList(plains(code)).indexOf(plain(page)) : STATE;
    }

    int clear(int code, int what) {
        if (!isCode(code)) {
            return UNKNOWN;
        }
        if (what < 0 || what > 2) {
            return OUTSIDE;
        }
        String[] p = plains(code);
        for (int i = 0; i < p.length; i++) {
            for (int j = i + 1; j < p.length; j++) {
                if (p[i].equals(p[j])) {
                    return what == 0 ? 0 : what == 1 ? i : j;
                }
            }
        }
        return what == 0 ? 1 : NONE;
    }

    int starts(int code, int what) {
        if (!isCode(code)) {
            return UNKNOWN;
        }
        if (what < 0 || what > 1) {
            return OUTSIDE;
        }
        String[] p = plains(code);
        for (int i = 0; i < p.length; i++) {
            for (int j = 0; j < p.length; j++) {
                if (!p[i].equals(p[j]) && p[j].startsWith(p[i])) {
                    return what == 0 ? i : j;
                }
            }
        }
        return NONE;
    }

    private record Tail(String text, int length) {
    }

    int twice(int code) {
        if (!isCode(code)) {
            return UNKNOWN;
        }
        String[] p = plains(code);
        PriorityQueue<Tail> next = new PriorityQueue<>((a, b) -> Integer.compare(a.length(), b.length()));
        for (int i = 0; i < p.length; i++) {
            for (int j = 0; j < p.length; j++) {
                if (i != j && !p[i].isEmpty() && p[j].startsWith(p[i])) {
                    next.add(new Tail(p[j].substring(p[i].length()), p[j].length()));
                }
            }
        }
        Set<String> come = new HashSet<>();
        while (!next.isEmpty()) {
            Tail t = next.remove();
            if (t.text().isEmpty()) {
                return t.length();
            }
            if (!come.add(t.text())) {
                continue;
            }
            for (String s : p) {
                if (s.isEmpty()) {
                    continue;
                }
                if (s.startsWith(t.text())) {
                    int more = s.length() - t.text().length();
                    next.add(new Tail(s.substring(t.text().length()), t.length() + more));
                } else if (t.text().startsWith(s)) {
                    next.add(new Tail(t.text().substring(s.length()), t.length()));
                }
            }
        }
        return NONE;
    }

    /** TWICE by writing down all rows up to a length; NONE if there is none so short, -2 if they are too many. */
    int twiceByRows(int code, int most) {
        String[] p = plains(code);
        List<Set<String>> rows = new ArrayList<>();
        rows.add(Set.of(""));
        int all = 1;
        for (int length = 1; length <= most; length++) {
            Map<String, Integer> ways = new HashMap<>();
            for (String s : p) {
                if (s.isEmpty() || s.length() > length) {
                    continue;
                }
                for (String ahead : rows.get(length - s.length())) {
                    if (ways.merge(ahead + s, 1, Integer::sum) > 1) {
                        return length;
                    }
                }
            }
            rows.add(ways.keySet());
            all += ways.size();
            if (all > 20000) {
                return -2;
            }
        }
        return NONE;
    }

    private static long lowest(BigInteger above, BigInteger below, int part) {
        BigInteger g = above.gcd(below);
        return (part == 0 ? above : below).divide(g).longValueExact();
    }

    private static long lowest(long above, long below, int part) {
        return lowest(BigInteger.valueOf(above), BigInteger.valueOf(below), part);
    }

    private int said(int code) {
        return Math.min(codes.get(code).length, weights.size());
    }

    private int refusedMean(int code, boolean partHolds) {
        if (!isCode(code)) {
            return UNKNOWN;
        }
        return !partHolds ? OUTSIDE : said(code) == 0 ? STATE : 0;
    }

    private int weightOf(int things) {
        return weights.subList(0, things).stream().mapToInt(v -> v).sum();
    }

    int mean(int code, int part) {
        int refused = refusedMean(code, part == 0 || part == 1);
        if (refused != 0) {
            return refused;
        }
        int sum = 0;
        for (int i = 0; i < said(code); i++) {
            sum += weights.get(i) * longOf(codes.get(code)[i]);
        }
        return (int) lowest(sum, weightOf(said(code)), part);
    }

    int oddness(int code) {
        if (!isCode(code)) {
            return UNKNOWN;
        }
        int sum = 0;
        for (int i = 0; i < said(code); i++) {
            for (char letter : codes.get(code)[i].toCharArray()) {
                sum += weights.get(i) * told(letter).odd();
            }
        }
        return sum;
    }

    int dealt(int code, int what) {
        int refused = refusedMean(code, what == 0 || what == 1 || what >= 10 && what <= 17);
        if (refused != 0) {
            return refused;
        }
        int m = said(code);
        List<Integer> things = new ArrayList<>();
        List<Integer> speeches = new ArrayList<>();
        for (int i = 0; i < m; i++) {
            things.add(i);
            speeches.add(i);
        }
        things.sort((a, b) -> weights.get(b) - weights.get(a));
        speeches.sort((a, b) -> longOf(codes.get(code)[a]) - longOf(codes.get(code)[b]));
        if (what >= 10) {
            int place = things.indexOf(what - 10);
            return place < 0 ? NONE : speeches.get(place);
        }
        int[] longs = new int[m];
        for (int i = 0; i < m; i++) {
            longs[i] = longOf(codes.get(code)[i]);
        }
        return (int) lowest(leastDealt(longs, 0, 0), weightOf(m), what);
    }

    /** The least of all ways to give the lengths out. */
    private int leastDealt(int[] longs, int thing, int given) {
        if (thing == longs.length) {
            return 0;
        }
        int least = Integer.MAX_VALUE;
        for (int i = 0; i < longs.length; i++) {
            if ((given >> i & 1) == 0) {
                least = Math.min(least, weights.get(thing) * longs[i] + leastDealt(longs, thing + 1, given | 1 << i));
            }
        }
        return least;
    }

    int shortest(int r, int part) {
        if (r < 2 || r > 8 || part < 0 || part > 1) {
            return OUTSIDE;
        }
        if (weights.isEmpty()) {
            return STATE;
        }
        List<Integer> heaviest = new ArrayList<>(weights);
        heaviest.sort((a, b) -> b - a);
        int least = weights.size() == 1 ? 0 : leastKraft(heaviest, 0, 1, r, (long) Math.pow(r, 7));
        return (int) lowest(least, weightOf(weights.size()), part);
    }

    /** The least of all rising rows of lengths (1 to 7) that leave room (of r to the 7) for all. */
    private static int leastKraft(List<Integer> heaviest, int i, int from, int r, long room) {
        if (i == heaviest.size()) {
            return 0;
        }
        int least = 1000000;
        for (int length = from; length <= 7; length++) {
            long taken = (long) Math.pow(r, 7 - length);
            if (taken <= room) {
                int more = leastKraft(heaviest, i + 1, length, r, room - taken);
                least = Math.min(least, heaviest.get(i) * length + more);
            }
        }
        return least;
    }

    private static int places(String a, String b) {
        int places = 0;
        for (int i = 0; i < a.length(); i++) {
            places += a.charAt(i) == b.charAt(i) ? 0 : 1;
        }
        return places;
    }

    int apart(int code) {
        if (!isCode(code)) {
            return UNKNOWN;
        }
        String[] p = plains(code);
        if (p.length < 2 || Arrays.stream(p).mapToInt(String::length).distinct().count() > 1) {
            return NONE;
        }
        int least = 100;
        for (int i = 0; i < p.length; i++) {
            for (int j = 0; j < p.length; j++) {
                least = i == j ? least : Math.min(least, places(p[i], p[j]));
            }
        }
        return least;
    }

    private static int nearest(String[] p, String row) {
        int best = NONE;
        for (int i = p.length - 1; i >= 0; i--) {
            if (p[i].length() == row.length() && (best == NONE || places(p[i], row) <= places(p[best], row))) {
                best = i;
            }
        }
        return best;
    }

    int named(int code) {
        if (!isCode(code)) {
            return UNKNOWN;
        }
        return isRow() ? nearest(plains(code), plain(page)) : STATE;
    }

    long right(int code, int thing, int r, int e, int part) {
        if (!isCode(code) || thing < 0 || thing >= said(code)) {
            return UNKNOWN;
        }
        if (r < 2 || r > 8 || e < 0 || e > 10 || part < 0 || part > 1) {
            return OUTSIDE;
        }
        String[] p = plains(code);
        String own = p[thing];
        if (own.length() > 4 || own.chars().anyMatch(c -> c - 'a' >= r)) {
            return STATE;
        }
        BigInteger above = hear(p, thing, "", r, e);
        BigInteger below = BigInteger.valueOf(10L * (r - 1)).pow(own.length());
        return lowest(above, below, part);
    }

    private BigInteger hear(String[] p, int thing, String heard, int r, int e) {
        String own = p[thing];
        if (heard.length() == own.length()) {
            return nearest(p, heard) == thing ? BigInteger.ONE : BigInteger.ZERO;
        }
        BigInteger sum = BigInteger.ZERO;
        for (int s = 0; s < r; s++) {
            char letter = (char) ('a' + s);
            long share = letter == own.charAt(heard.length()) ? (10L - e) * (r - 1) : e;
            sum = sum.add(hear(p, thing, heard + letter, r, e).multiply(BigInteger.valueOf(share)));
        }
        return sum;
    }

    int note(int thing) {
        if (thing < 0 || thing >= weights.size()) {
            return UNKNOWN;
        }
        if (!isRow() || page.length() > 8) {
            return STATE;
        }
        if (notes.size() == 10) {
            return FULL;
        }
        notes.add(new Note(thing, page));
        page = "";
        return notes.size();
    }

    int forget() {
        int had = notes.size();
        notes = new ArrayList<>();
        return had;
    }

    int which() {
        int bits = 0;
        for (int c = 0; c < codes.size(); c++) {
            String[] p = plains(c);
            if (notes.stream().allMatch(n -> n.thing() < p.length && p[n.thing()].equals(plain(n.row())))) {
                bits |= 1 << c;
            }
        }
        return bits;
    }

    int step(int code, int week) {
        if (!isCode(code)) {
            return UNKNOWN;
        }
        if (week < 0 || week > 99) {
            return OUTSIDE;
        }
        int m = said(code);
        if (m == 0) {
            return STATE;
        }
        String[] p = plains(code);
        for (int k = 0; k <= 7; k++) {
            int moved = k * week;
            if (notes.stream().allMatch(n -> n.thing() < m && p[(n.thing() + moved) % m].equals(plain(n.row())))) {
                return k;
            }
        }
        return NONE;
    }

    long seen(int n, int part) {
        if (n < 1 || n > 6 || part < 0 || part > 1) {
            return OUTSIDE;
        }
        if (weights.isEmpty()) {
            return STATE;
        }
        int sets = 1 << weights.size();
        BigInteger[] ways = new BigInteger[sets];
        Arrays.fill(ways, BigInteger.ZERO);
        ways[0] = BigInteger.ONE;
        for (int i = 0; i < n; i++) {
            BigInteger[] then = new BigInteger[sets];
            Arrays.fill(then, BigInteger.ZERO);
            for (int set = 0; set < sets; set++) {
                for (int t = 0; t < weights.size(); t++) {
                    BigInteger more = ways[set].multiply(BigInteger.valueOf(weights.get(t)));
                    then[set | 1 << t] = then[set | 1 << t].add(more);
                }
            }
            ways = then;
        }
        return lowest(ways[sets - 1], BigInteger.valueOf(weightOf(weights.size())).pow(n), part);
    }

    private int changeOf(int from, int to) {
        String[] a = codes.get(from);
        String[] b = codes.get(to);
        int sum = 0;
        for (int i = 0; i < b.length; i++) {
            boolean alike = i < a.length && a[i].equals(b[i]);
            sum += alike ? 0 : longOf(b[i]);
        }
        return sum;
    }

    int change(int from, int to) {
        return isCode(from) && isCode(to) ? changeOf(from, to) : UNKNOWN;
    }

    int cheapest(int code) {
        if (!isCode(code)) {
            return UNKNOWN;
        }
        int best = NONE;
        for (int i = codes.size() - 1; i >= 0; i--) {
            if (i != code && (best == NONE || changeOf(code, i) <= changeOf(code, best))) {
                best = i;
            }
        }
        return best;
    }

    long luck(int n, int k, int r, int part) {
        if (n < 1 || n > 12 || k < 2 || k > 9 || r < 0 || r > n || part < 0 || part > 1) {
            return OUTSIDE;
        }
        long[] ways = new long[n + 1];
        ways[0] = 1;
        for (int i = 0; i < n; i++) {
            for (int j = n; j >= 0; j--) {
                ways[j] = ways[j] * (k - 1) + (j > 0 ? ways[j - 1] : 0);
            }
        }
        return lowest(Arrays.stream(ways, r, n + 1).sum(), Arrays.stream(ways).sum(), part);
    }

    private int leftOf(int code, int stopped) {
        Set<String> unlike = new HashSet<>();
        for (String row : codes.get(code)) {
            String rest = "";
            for (char letter : row.toCharArray()) {
                rest += (stopped >> (letter - 'a') & 1) == 0 ? "" + letter : "";
            }
            unlike.add(plain(rest));
        }
        return unlike.size();
    }

    int left(int code, int stopped) {
        if (!isCode(code)) {
            return UNKNOWN;
        }
        return stopped < 0 || stopped > 255 ? OUTSIDE : leftOf(code, stopped);
    }

    int stop(int code) {
        if (!isCode(code)) {
            return UNKNOWN;
        }
        int best = 255;
        for (int bits = 255; bits >= 0; bits--) {
            if (Integer.bitCount(bits) <= Integer.bitCount(best) && leftOf(code, bits) <= 1) {
                best = bits;
            }
        }
        return best;
    }

    int image() {
        keptWeights = new ArrayList<>(weights);
        keptNotes = new ArrayList<>(notes);
        return weights.size();
    }

    int restore() {
        if (keptWeights == null) {
            return STATE;
        }
        List<Integer> since = weights.subList(keptWeights.size(), weights.size());
        List<Integer> restored = new ArrayList<>(keptWeights);
        restored.addAll(since);
        weights.clear();
        weights.addAll(restored);
        notes = new ArrayList<>(keptNotes);
        return weights.size();
    }

    int count(int what) {
        return switch (what) {
            case 0 -> signals.size();
            case 1 -> weights.size();
            case 2 -> codes.size();
            case 3 -> notes.size();
            case 4 -> page.length();
            case 5 -> weightOf(weights.size());
            default -> OUTSIDE;
        };
    }

    long digest() {
        List<Long> numbers = new ArrayList<>();
        for (Signal s : signals) {
            numbers.addAll(List.of((long) s.kind(), (long) s.n(), (long) s.seconds(), (long) s.odd()));
        }
        weights.forEach(v -> numbers.add((long) v));
        for (int c = 0; c < codes.size(); c++) {
            for (int s = 0; s < codes.get(c).length; s++) {
                for (int i : new int[] {0, 1, 2, 3, 4, 5, 10, 30}) {
                    numbers.add((long) speech(c, s, i));
                }
            }
            numbers.addAll(List.of((long) clear(c, 0), (long) twice(c), (long) oddness(c), (long) apart(c), (long) stop(c)));
        }
        for (Note n : notes) {
            numbers.add((long) n.thing());
            numbers.add((long) n.row().length());
            n.row().chars().forEach(c -> numbers.add((long) c - 'a'));
        }
        numbers.add((long) which());
        page.chars().forEach(c -> numbers.add((long) c));
        for (int what = 0; what <= 5; what++) {
            numbers.add((long) count(what));
        }
        long h = 479;
        for (long number : numbers) {
            h = 31 * h + number;
        }
        return h;
    }
}
