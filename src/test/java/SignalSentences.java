/** The sentences of promises 1 to 11: a new object, the page, signals, things and speeches; one test for each. */
final class SignalSentences extends Sentence {
    private static final String FULL_PAGE = LONGEST + ",";

    static void all() {
        newObject();
        letters();
        blank();
        fault();
        code();
        signal();
        as();
        about();
        thing();
        weigh();
        speech();
    }

    private static void newObject() {
        of(1, "No SIGNALS, no THINGS, no CODES.");
        for (int what = 0; what <= 5; what++) {
            due("count(" + what + ")", new MindReaders().count(what), 0);
        }
        asked("about", UNKNOWN, MindReaders::new, x -> x.about(0, 0));
        asked("as", UNKNOWN, MindReaders::new, x -> x.as(0, 0));
        asked("weigh", UNKNOWN, MindReaders::new, x -> x.weigh(0, 1));
        asked("note", UNKNOWN, MindReaders::new, x -> x.note(0));
        asked("speech", UNKNOWN, MindReaders::new, x -> x.speech(0, 0, 0));
        asked("means", UNKNOWN, MindReaders::new, x -> x.means(0));
        asked("which", 0, MindReaders::new, x -> x.which());
        asked("forget", 0, MindReaders::new, x -> x.forget());
        asked("blank", 0, MindReaders::new, x -> x.blank());
        asked("fault", 0, MindReaders::new, x -> x.fault());
        asked("restore", STATE, MindReaders::new, x -> x.restore());
        MindReaders x = full("abc");
        due("another one that is full", x.count(1), 8);
        due("has nothing to do with a new one", new MindReaders().count(1), 0);
    }

    // ---- 2: letters

    private static void letters() {
        lettersInOrder();
        lettersWithEnd();
        lettersOutside();
        lettersFull();
    }

    /** A word of eight bytes, one of them as told, those below it 'a' and those above it 0. */
    private static long byteAt(int place, int b) {
        long w = (long) b << (8 * place);
        for (int i = 0; i < place; i++) {
            w |= 'a' * 1L << (8 * i);
        }
        return w;
    }

    private static void lettersInOrder() {
        of(2, "Letters come behind THE PAGE,");
        MindReaders x = new MindReaders();
        x.letters(Check.bytes("ab"));
        x.letters(Check.bytes("c"));
        x.code();
        for (int i = 1; i <= 3; i++) {
            due("letter " + i, x.speech(0, 0, i), i - 1);
        }

        of(2, "up to eight,");
        for (int many = 1; many <= 8; many++) {
            due(many + " letters", new MindReaders().letters(Check.bytes("abcdefgh".substring(0, many))), many);
        }

        of(2, "told by their codes in the bytes of w, the lowest byte first,");
        x = new MindReaders();
        x.letters('h' + ('g' << 8) + ((long) 'f' << 16));
        x.code();
        due("the lowest byte", x.speech(0, 0, 1), 7);
        due("the one above it", x.speech(0, 0, 2), 6);
        due("the one above that", x.speech(0, 0, 3), 5);
        for (int b = 1; b <= 126; b++) {
            x = new MindReaders();
            x.letters(b);
            due("the code of letter " + b, x.digest(), digestOfPage(b));
        }
    }

    /** What digest() is of a new object with one letter on THE PAGE. */
    private static long digestOfPage(int letter) {
        long h = (479L * 31 + 0) * 31 + letter;
        for (int what = 0; what <= 5; what++) {
            h = h * 31 + (what == 4 ? 1 : 0);
        }
        return h;
    }

    private static void lettersWithEnd() {
        of(2, "until a byte that is 0:");
        for (int place = 0; place < 8; place++) {
            long w = byteAt(place, 0);
            asked("letters(" + w + ")", 2 + place, () -> page(x -> x.letters(w), "ab"), x -> x.count(4));
        }
        asked("letters(0) on an empty one", 0, MindReaders::new, x -> x.letters(0));
        asked("letters(0) behind two", 2, () -> busy("ab"), x -> x.letters(0));

        of(2, "how many THE PAGE has.");
        MindReaders x = new MindReaders();
        for (int many = 3; many <= 48; many += 3) {
            due("three more", x.letters(Check.bytes("abc")), many);
        }
    }

    private static MindReaders page(Asked asked, String text) {
        MindReaders x = busy(text);
        asked.of(x);
        return x;
    }

    private static void lettersOutside() {
        of(2, "OUTSIDE: a byte above 126,");
        for (int place = 0; place < 8; place++) {
            for (int b : new int[] {127, 128, 129, 192, 254, 255}) {
                long w = byteAt(place, b);
                asked("byte " + b + " at " + place, OUTSIDE, () -> busy("ab"), x -> x.letters(w));
                asked("byte " + b + " at " + place + ", when full", OUTSIDE, () -> full(FULL_PAGE), x -> x.letters(w));
            }
            due("byte 126 at " + place, busy("ab").letters(byteAt(place, 126)), 3 + place);
            due("byte 1 at " + place, busy("ab").letters(byteAt(place, 1)), 3 + place);
        }
        for (long w : new long[] {-1, Long.MIN_VALUE + 0x61616161616161L, Long.MAX_VALUE, 0xfffffffffffffffeL}) {
            asked("letters(" + w + ")", OUTSIDE, () -> busy("ab"), x -> x.letters(w));
        }

        of(2, "or one behind a 0 that is not 0;");
        for (int zero = 0; zero < 7; zero++) {
            for (int place = zero + 1; place < 8; place++) {
                for (int b : new int[] {1, 'a', 126, 128, 255}) {
                    long w = byteAt(zero, 0) | (long) b << (8 * place);
                    asked("0 at " + zero + ", " + b + " at " + place, OUTSIDE, () -> busy("ab"), x -> x.letters(w));
                }
            }
        }
        asked("the least", OUTSIDE, () -> busy("ab"), x -> x.letters(Long.MIN_VALUE));
        asked("a 0 between, when full", OUTSIDE, () -> full(FULL_PAGE), x -> x.letters(0x610061));
    }

    private static void lettersFull() {
        of(2, "FULL: above 48.");
        for (int had = 40; had <= 48; had++) {
            String text = times('z', had);
            for (int more = 0; more <= 8; more++) {
                long w = Check.bytes(times('y', more));
                String call = more + " behind " + had;
                if (had + more <= 48) {
                    due(call, busy(text).letters(w), had + more);
                } else {
                    asked(call, FULL, () -> busy(text), x -> x.letters(w));
                }
            }
        }
        due("once it is empty again", page(x -> x.blank(), FULL_PAGE).letters(97), 1);
    }

    private static void blank() {
        of(3, "THE PAGE is empty:");
        MindReaders x = busy(FULL_PAGE);
        x.blank();
        due("how many letters then", x.count(4), 0);
        due("blank() of an empty one", x.blank(), 0);
        due("letters begin anew", x.letters(98), 1);
        x.code();
        due("with those told since", x.speech(2, 0, 1), 1);
        asked("nothing else goes by it", 0, () -> busy(""), y -> y.blank());

        of(3, "how many letters it had.");
        for (int had = 0; had <= 48; had++) {
            due("blank() of " + had, busy(times('~', had)).blank(), had);
        }
    }

    // ---- 4: fault

    private static void isFault(String text, int due) {
        asked("fault() of \"" + text + "\"", due, () -> busy(text), x -> x.fault());
    }

    private static void fault() {
        of(4, "The place (from 0) of the first letter of THE PAGE that no CODE has there,");
        for (int letter = 1; letter <= 126; letter++) {
            boolean isLetter = letter >= 'a' && letter <= 'h';
            isFault("" + (char) letter, isLetter ? 1 : 0);
            isFault("ab" + (char) letter, isLetter || letter == ',' ? 3 : 2);
        }
        isFault(times('i', 48), 0);
        isFault("ab,cI,,", 4);

        of(4, "behind those ahead of it;");
        isFault("abcdef", 5);
        isFault("abcdeabc", 5);
        isFault("a,abcdef", 7);
        isFault(",", 0);
        isFault(",a", 0);
        isFault("a,,", 2);
        isFault("a,b,,c", 4);
        isFault("a,b,c,d,e,f,g,h,", 15);
        isFault("a,b,c,d,e,f,g,h,a", 15);
        isFault("a,b,c,d,e,f,g,hhhhhh", 19);
        isFault(FULL_PAGE, 47);
        isFault(LONGEST + "a", 47);

        of(4, "how many letters it has, if there is none.");
        isFault("", 0);
        isFault("a", 1);
        isFault("a,", 2);
        isFault("abcde", 5);
        isFault("abcde,", 6);
        isFault("a,b,c,d,e,f,g,h", 15);
        isFault("a,b,c,d,e,f,g,", 14);
        isFault(LONGEST, 47);
    }

    private static void code() {
        of(5, "THE PAGE is read as a CODE: its number;");
        MindReaders x = new MindReaders();
        String[] texts = {"a", LONGEST, "a", "h,g,f,e,d,c,b,a"};
        for (int i = 0; i < texts.length; i++) {
            due(texts[i], Check.code(x, texts[i]), i);
        }
        for (int i = 0; i < texts.length; i++) {
            String[] speeches = texts[i].split(",");
            for (int s = 0; s < speeches.length; s++) {
                due("letters of SPEECH " + s + " of CODE " + i, x.speech(i, s, 0), speeches[s].length());
            }
            due("no SPEECH behind the last of CODE " + i, x.speech(i, speeches.length, 0), UNKNOWN);
        }

        of(5, "THE PAGE is empty then.");
        x = busy(LONGEST);
        due("code()", x.code(), 2);
        due("THE PAGE then", x.count(4), 0);
        due("it is no CODE", x.code(), STATE);

        of(5, "STATE: it is none;");
        String[] none = {"", ",", "a,", ",a", "a,,b", "abcdef", "a,abcdef", "i", "`", "A", " a", "a ", "a b", "a,b,c,d,e,f,g,h,",
            "a,b,c,d,e,f,g,h,a", FULL_PAGE, LONGEST + "a", times('a', 48), times(',', 48)};
        for (String text : none) {
            asked("code() of \"" + text + "\"", STATE, () -> busy(text), y -> y.code());
            asked("code() of \"" + text + "\", when full", STATE, () -> full(text), y -> y.code());
        }

        of(5, "FULL.");
        for (String text : texts) {
            asked("code() of \"" + text + "\"", FULL, () -> full(text), y -> y.code());
        }
    }

    // ---- 6 to 8: signals

    private static void signal() {
        signalNumber();
        signalKind();
        signalTone();
        signalSeconds();

        of(6, "FULL.");
        for (int kind = 0; kind <= 4; kind++) {
            int told = kind;
            asked("a ninth of KIND " + kind, FULL, () -> full(""), x -> x.signal(told, told == 2 ? 0 : NONE, 9, 9));
        }
    }

    private static void signalNumber() {
        of(6, "A SIGNAL: its number.");
        MindReaders x = new MindReaders();
        int[][] told = {{0, NONE}, {1, NONE}, {2, 0}, {2, 1}, {3, NONE}, {4, NONE}, {1, NONE}, {2, 6}};
        for (int i = 0; i < told.length; i++) {
            due("number of SIGNAL " + i, x.signal(told[i][0], told[i][1], 1 + i, i), i);
        }
        for (int i = 0; i < told.length; i++) {
            due("KIND of SIGNAL " + i, x.about(i, 0), told[i][0]);
            due("n of SIGNAL " + i, x.about(i, 1), told[i][1]);
            due("SECONDS of SIGNAL " + i, x.about(i, 2), 1 + i);
            due("ODD of SIGNAL " + i, x.about(i, 3), i);
        }
    }

    private static void signalKind() {
        of(6, "OUTSIDE: kind;");
        for (int kind : outside(0, 4)) {
            asked("KIND " + kind, OUTSIDE, () -> busy(""), x -> x.signal(kind, NONE, 1, 0));
            asked("KIND " + kind + " ahead of n", OUTSIDE, () -> busy(""), x -> x.signal(kind, 9, 1, 0));
            asked("KIND " + kind + " ahead of FULL", OUTSIDE, () -> full(""), x -> x.signal(kind, NONE, 1, 0));
        }
    }

    private static void signalTone() {
        of(6, "UNKNOWN: n (of a TONED a WORD or PAUSE told ahead; NONE else);");
        for (int n : new int[] {NONE, 2, 3, 4, 5, 6, 8, -2, MIN, MAX}) {
            asked("TONED of " + n, UNKNOWN, () -> busy(""), x -> x.signal(2, n, 1, 0));
            asked("TONED of " + n + " ahead of SECONDS", UNKNOWN, () -> busy(""), x -> x.signal(2, n, 0, 0));
            asked("TONED of " + n + " ahead of ODD", UNKNOWN, () -> busy(""), x -> x.signal(2, n, 1, 10));
        }
        for (int n : new int[] {2, 3, 4, 5, 6, 7, 8}) {
            asked("TONED of " + n + " ahead of FULL", UNKNOWN, () -> full(""), x -> x.signal(2, n, 1, 0));
        }
        for (int kind : new int[] {0, 1, 3, 4}) {
            for (int n : new int[] {-2, 0, 1, 2, 4, 5, 8, MIN, MAX}) {
                asked("KIND " + kind + ", n = " + n, UNKNOWN, () -> busy(""), x -> x.signal(kind, n, 1, 0));
                asked("KIND " + kind + ", n = " + n + " ahead of SECONDS", UNKNOWN, () -> busy(""), x -> x.signal(kind, n, 10, 0));
                asked("KIND " + kind + ", n = " + n + " ahead of FULL", UNKNOWN, () -> full(""), x -> x.signal(kind, n, 1, 0));
            }
        }
        due("TONED of a WORD", busy("").signal(2, 0, 1, 0), 5);
        due("TONED of a PAUSE", busy("").signal(2, 1, 1, 0), 5);
    }

    private static void signalSeconds() {
        of(6, "OUTSIDE: seconds, odd;");
        for (int seconds : outside(1, 9)) {
            asked("SECONDS " + seconds, OUTSIDE, () -> busy(""), x -> x.signal(0, NONE, seconds, 0));
            asked("SECONDS " + seconds + " of a TONED", OUTSIDE, () -> busy(""), x -> x.signal(2, 1, seconds, 0));
            asked("SECONDS " + seconds + " ahead of FULL", OUTSIDE, () -> full(""), x -> x.signal(0, NONE, seconds, 0));
        }
        for (int odd : outside(0, 9)) {
            asked("ODD " + odd, OUTSIDE, () -> busy(""), x -> x.signal(0, NONE, 1, odd));
            asked("ODD " + odd + " of an EMPTY", OUTSIDE, () -> busy(""), x -> x.signal(3, NONE, 1, odd));
            asked("ODD " + odd + " ahead of FULL", OUTSIDE, () -> full(""), x -> x.signal(0, NONE, 1, odd));
        }
        for (int kind = 0; kind <= 4; kind++) {
            int n = kind == 2 ? 0 : NONE;
            due("the least of KIND " + kind, busy("").signal(kind, n, 1, 0), 5);
            due("the most of KIND " + kind, busy("").signal(kind, n, 9, 9), 5);
        }
    }

    private static void as() {
        of(7, "A SIGNAL taken as a KIND: its own number, not that of the KIND;");
        int[][] takenAs = {{0, 1}, {0, 1, 2}, {0, 4}, {0}, {0, 3}};
        boolean[][] taken = new boolean[5][5];
        for (int s = 0; s < 5; s++) {
            for (int kind : takenAs[s]) {
                taken[s][kind] = true;
                int told = s;
                asked("as(" + s + ", " + kind + ")", s, Sentence::mixed, x -> x.as(told, kind));
            }
        }

        of(7, "NONE: it is none such (the cast fails).");
        for (int s = 0; s < 5; s++) {
            for (int kind = 0; kind < 5; kind++) {
                due("as(" + s + ", " + kind + ")", mixed().as(s, kind), taken[s][kind] ? s : NONE);
            }
        }

        of(7, "UNKNOWN;");
        for (int s : beyond(5)) {
            asked("as(" + s + ", 0)", UNKNOWN, () -> busy(""), x -> x.as(s, 0));
            asked("as(" + s + ", 5)", UNKNOWN, () -> busy(""), x -> x.as(s, 5));
        }
        due("as(7, 3) of eight", full("").as(7, 3), 7);
        due("as(8, 0) of eight", full("").as(8, 0), UNKNOWN);

        of(7, "OUTSIDE.");
        for (int kind : outside(0, 4)) {
            for (int s = 0; s < 5; s++) {
                int told = s;
                asked("as(" + s + ", " + kind + ")", OUTSIDE, () -> busy(""), x -> x.as(told, kind));
            }
        }
    }

    private static void about() {
        of(8, "Of a SIGNAL: what = 0 KIND, 1 n (NONE), 2 SECONDS, 3 ODD.");
        int[][] due = {{1, NONE, 4, 9}, {2, 0, 5, 8}, {4, NONE, 6, 7}, {0, NONE, 7, 6}, {3, NONE, 8, 5}};
        for (int s = 0; s < 5; s++) {
            for (int what = 0; what < 4; what++) {
                int told = s;
                int asked = what;
                asked("about(" + s + ", " + what + ")", due[s][what], Sentence::mixed, x -> x.about(told, asked));
            }
        }
        due("n of a TONED of the last WORD", full("").about(2, 1), 1);

        of(8, "UNKNOWN;");
        for (int s : beyond(5)) {
            asked("about(" + s + ", 0)", UNKNOWN, () -> busy(""), x -> x.about(s, 0));
            asked("about(" + s + ", 4)", UNKNOWN, () -> busy(""), x -> x.about(s, 4));
        }

        of(8, "OUTSIDE.");
        for (int what : outside(0, 3)) {
            for (int s = 0; s < 5; s++) {
                int told = s;
                asked("about(" + s + ", " + what + ")", OUTSIDE, () -> busy(""), x -> x.about(told, what));
            }
        }
    }

    // ---- 9 to 11: things and speeches

    private static void thing() {
        of(9, "A THING: its number.");
        MindReaders x = new MindReaders();
        for (int i = 0; i < 8; i++) {
            due("THING " + i, x.thing(i % 2 == 0 ? 1 : 99), i);
            due("WEIGHTS together", x.count(5), 50 * i + (i % 2 == 0 ? 1 : 50));
        }

        of(9, "OUTSIDE: weight;");
        for (int weight : outside(1, 99)) {
            asked("thing(" + weight + ")", OUTSIDE, () -> busy(""), y -> y.thing(weight));
            asked("thing(" + weight + ") ahead of FULL", OUTSIDE, () -> full(""), y -> y.thing(weight));
        }

        of(9, "FULL.");
        asked("thing(1)", FULL, () -> full(""), y -> y.thing(1));
        asked("thing(99)", FULL, () -> full(""), y -> y.thing(99));
    }

    private static void weigh() {
        of(10, "WEIGHT of a THING becomes v: what it was.");
        MindReaders x = Check.with("a", 5, 6);
        due("the least", x.weigh(0, 1), 5);
        due("the most", x.weigh(0, 99), 1);
        due("the same again", x.weigh(0, 99), 99);
        due("the other one stays", x.weigh(1, 7), 6);
        due("WEIGHTS together", x.count(5), 106);
        due("the last of eight", full("").weigh(7, 1), 44);

        of(10, "UNKNOWN;");
        for (int thing : beyond(3)) {
            asked("weigh(" + thing + ", 1)", UNKNOWN, () -> busy(""), y -> y.weigh(thing, 1));
            asked("weigh(" + thing + ", 0)", UNKNOWN, () -> busy(""), y -> y.weigh(thing, 0));
            asked("weigh(" + thing + ", 100)", UNKNOWN, () -> busy(""), y -> y.weigh(thing, 100));
        }

        of(10, "OUTSIDE.");
        for (int v : outside(1, 99)) {
            asked("weigh(0, " + v + ")", OUTSIDE, () -> busy(""), y -> y.weigh(0, v));
            asked("weigh(2, " + v + ")", OUTSIDE, () -> busy(""), y -> y.weigh(2, v));
        }
    }

    private static void isSpeech(int speech, int i, int due) {
        asked("speech(0, " + speech + ", " + i + ")", due, SignalSentences::spoken, x -> x.speech(0, speech, i));
    }

    /** Its SPEECHES stand, PLAIN, as abbb, nothing, ten times b, fh. */
    private static MindReaders spoken() {
        MindReaders x = Check.withKinds();
        Check.code(x, "acb,ddddd,ccccc,fh");
        return x;
    }

    private static void speech() {
        String[] letters = {"acb", "ddddd", "ccccc", "fh"};
        String[] plain = {"abbb", "", "bbbbbbbbbb", "fh"};
        int[] longs = {6, 20, 15, 2};
        of(11, "Of the SPEECH of a CODE: i = 0 how many letters,");
        for (int s = 0; s < 4; s++) {
            isSpeech(s, 0, letters[s].length());
        }

        of(11, "1 to 5 the so-manieth (its SIGNAL's number; NONE),");
        for (int s = 0; s < 4; s++) {
            for (int i = 1; i <= 5; i++) {
                isSpeech(s, i, i <= letters[s].length() ? letters[s].charAt(i - 1) - 'a' : NONE);
            }
        }

        of(11, "10 how many stand PLAIN,");
        for (int s = 0; s < 4; s++) {
            isSpeech(s, 10, plain[s].length());
        }

        of(11, "11 to 20 the so-manieth of these (NONE),");
        for (int s = 0; s < 4; s++) {
            for (int i = 1; i <= 10; i++) {
                isSpeech(s, 10 + i, i <= plain[s].length() ? plain[s].charAt(i - 1) - 'a' : NONE);
            }
        }

        of(11, "30 LONG.");
        for (int s = 0; s < 4; s++) {
            isSpeech(s, 30, longs[s]);
        }
        speechRefused();
    }

    private static void speechRefused() {
        of(11, "UNKNOWN: code, speech;");
        for (int code : beyond(2)) {
            asked("speech(" + code + ", 0, 0)", UNKNOWN, () -> busy(""), x -> x.speech(code, 0, 0));
            asked("speech(" + code + ", 0, 6)", UNKNOWN, () -> busy(""), x -> x.speech(code, 0, 6));
        }
        for (int speech : beyond(4)) {
            asked("speech(0, " + speech + ", 0)", UNKNOWN, () -> busy(""), x -> x.speech(0, speech, 0));
            asked("speech(0, " + speech + ", 6)", UNKNOWN, () -> busy(""), x -> x.speech(0, speech, 6));
        }
        due("the last SPEECH of the last CODE", full("").speech(3, 2, 0), 2);
        due("a fifth CODE", full("").speech(4, 0, 0), UNKNOWN);
        due("a SPEECH that another CODE has", busy("").speech(1, 2, 0), UNKNOWN);

        of(11, "OUTSIDE.");
        for (int i : new int[] {-1, 6, 7, 8, 9, 21, 22, 29, 31, 100, MIN, MAX}) {
            for (int s = 0; s < 4; s++) {
                isSpeech(s, i, OUTSIDE);
            }
        }
    }
}
