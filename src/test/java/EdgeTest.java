import java.util.ArrayList;
import java.util.List;
import java.util.NoSuchElementException;

/**
 * The document read sentence by sentence for its edges: of each sentence that names one the last value that is
 * allowed and the first that is not, on each side; of each refused call also that the object answers as before.
 */
public final class EdgeTest {
    private interface Make {
        SunnyPans made();
    }

    private interface Ask {
        int of(SunnyPans s, int v);
    }

    private static final Class<?> MISSING = NoSuchElementException.class;
    private static final Class<?> BAD = IllegalArgumentException.class;
    private static final String EIGHT = "0 0 1;1 0 1;2 0 1;3 0 1;4 0 1;5 0 1;6 0 1;7 0 1;";
    private static final String TEN_HOURS = "hour 7 40;".repeat(10);

    // 2 ** 31: the least number of 32 bits, as it wraps
    private static final String LEAST = "512*512*512*16";

    // No call of the face answers these.
    private static final int THREW_MISSING = -1_001;
    private static final int THREW_BAD = -1_002;

    private static int wrong = 0;
    private static String words = "";
    private static SunnyPans x = new SunnyPans();

    public static void main(String[] args) {
        newObject();
        worksTexts();
        worksHours();
        worksPlaces();
        worksBeyond();
        lawTexts();
        lawNames();
        lawValues();
        lawDivides();
        lawOpen();
        workTexts();
        workNumbers();
        bookTexts();
        bookLines();
        numbersAndWords();
        blanks();
        firstFault();
        whatCantStand();
        restOfTheTape();
        leastFault();
        sides();
        shadows();
        shadowsAtTheEdge();
        inShade();
        pansAndHeaps();
        dry();
        strongestGreatestNearest();
        begunSteps();
        let();
        letMostBrine();
        letMostSalt();
        rake();
        rakeMost();
        cartAndRain();
        rainOnHeaps();
        hours();
        hourByHour();
        lastDay();
        beyondTheLastDay();
        dryingHours();
        noDrying();
        ahead();
        noon();
        sites();
        sitesAlike();
        pairsAndRelief();
        relief();
        ways();
        waysOverDryPlaces();
        fitsAndLook();
        fitsByLines();
        look();
        water();
        waterMost();
        summers();
        drawn();
        summerHours();
        span();
        rowsAndLines();
        feedAndTexts();
        textLengths();
        worksForgets();
        sixteenWorks();
        minus20();
        undone();
        refusedByTheLatest();
        images();
        imagesOfWorks();
        noImageKeepsIt();
        counts();
        placesAndHours();
        whats();
        amounts();
        would();
        largestAndSmallest();
        missingAheadOfBad();
        askedNothingStaysChanged();
        if (wrong > 0) {
            System.out.println(wrong + " answers are wrong");
            System.exit(1);
        }
    }

    // ---- how a test is told ----

    /** Begins a new object; what follows is due by these words of the document. */
    private static void says(String sentence) {
        words = sentence;
        x = new SunnyPans();
    }

    private static void says(String sentence, String works) {
        says(sentence);
        works(works);
        due(-1, x.fault());
    }

    private static void due(int want, int got) {
        if (got != want) {
            wrong("answered " + got + ", due is " + want);
        }
    }

    private static void wrong(String what) {
        wrong++;
        int line = 0;
        for (StackTraceElement e : new Throwable().getStackTrace()) {
            line = e.getLineNumber();
            if (!e.getMethodName().matches("wrong|due|faulty|stands|numbers|refuses|limits|leaves|answers")) {
                break;
            }
        }
        System.out.println("line " + line + ", \"" + words + "\": " + what);
    }

    private static void put(SunnyPans s, String text) {
        for (int i = 0; i < text.length(); i += 20) {
            int[] v = new int[5];
            for (int j = 0; j < 20; j++) {
                int c = i + j < text.length() ? text.charAt(i + j) : 0;
                v[j / 4] = v[j / 4] << 8 | c;
            }
            s.feed(v[0], v[1], v[2], v[3], v[4]);
        }
    }

    private static int read(SunnyPans s, String reader, String text) {
        put(s, text);
        switch (reader) {
            case "works": return s.works(text.length());
            case "law": return s.law(text.length());
            case "work": return s.work(text.length());
            default: return s.book(text.length());
        }
    }

    private static int works(String text) {
        return read(x, "works", text);
    }

    private static int law(String text) {
        return read(x, "law", text);
    }

    private static int work(String text) {
        return read(x, "work", text);
    }

    private static int book(String text) {
        return read(x, "book", text);
    }

    private static String times(int n, String text) {
        return text.repeat(n);
    }

    // ---- objects to ask ----

    /** Three by two pans, three hours, a law, a book, two works, an image, two refused steps, a fault at 2. */
    private static SunnyPans richWithoutTape() {
        SunnyPans s = new SunnyPans();
        read(s, "works", "size 3 2;hour 2 10;hour 6 20;hour 0 0;"
            + "pan 0 0 100 20;pan 1 0 30 10;pan 2 1 0 50;heap 1 1 120;");
        read(s, "law", "9+reach/5");
        read(s, "book", "0 0 61;");
        read(s, "work", "hour;cart 0 0;");
        s.image();
        read(s, "work", "let 0 0 5;cart 0 0;cart 0 0;");
        read(s, "law", "1+*");
        return s;
    }

    private static SunnyPans rich() {
        SunnyPans s = richWithoutTape();
        put(s, "rain 7;");
        return s;
    }

    private static SunnyPans largest() {
        SunnyPans s = new SunnyPans();
        read(s, "works", "size 8 8;" + TEN_HOURS + "pan 7 7 999 999;heap 0 0 999;pan 7 0 5 0;");
        put(s, "rain 7;");
        return s;
    }

    private static SunnyPans smallest() {
        SunnyPans s = new SunnyPans();
        read(s, "works", "size 1 1;hour 3 40;pan 0 0 5 5;");
        put(s, "rain 7;");
        return s;
    }

    private static SunnyPans withoutHours() {
        SunnyPans s = new SunnyPans();
        put(s, "rain 7;");
        return s;
    }

    /** A tape of so many bytes (by twenties), blanks behind the text. */
    private static SunnyPans fed(int bytes, String text) {
        SunnyPans s = new SunnyPans();
        put(s, text + times(bytes - text.length(), " "));
        return s;
    }

    private static SunnyPans fed(int bytes) {
        return fed(bytes, "");
    }

    /** What can be asked of an object, and, at last, what its tape, its works and its images bring. */
    private static List<Integer> allOf(SunnyPans s) {
        List<Integer> all = new ArrayList<>();
        allNow(s, all);
        all.add(answer(s, 7, (t, n) -> t.work(n)));
        for (int left = 0; left >= 0;) {
            allChanged(s, all);
            left = s.undo();
            all.add(left);
        }
        for (int left = 0; left >= 0;) {
            left = s.restore();
            all.add(left);
            allChanged(s, all);
            all.add(s.undo());
            allChanged(s, all);
        }
        return all;
    }

    private static void allNow(SunnyPans s, List<Integer> all) {
        int wide = s.told(0);
        int high = s.told(1);
        int hours = s.told(2);
        allChanged(s, all);
        all.add(s.told(9));
        all.add(s.count(1));
        for (int y = 0; y < high; y++) {
            for (int u = 0; u < wide; u++) {
                all.add(s.pan(u, y, 0) * 10_000 + s.pan(u, y, 1));
                all.add(s.pan(u, y, 3));
            }
            for (int hour = 0; hour < hours; hour++) {
                all.add(s.shade(hour, y));
            }
        }
        for (int hour = 0; hour < hours; hour++) {
            all.add(s.hour(hour, 0) * 100 + s.hour(hour, 1));
        }
        all.add(s.would(9, 8, 7, 6, 5, 4, 3, 2));
        all.add(s.would(9, 8, 33, 6, 5, 4, 3, 2));
        all.add(s.fits(10, 0));
        all.add(s.fits(60, 1));
    }

    private static void allChanged(SunnyPans s, List<Integer> all) {
        for (int what = 3; what <= 12; what++) {
            all.add(s.told(what));
        }
        all.add(s.count(0));
        all.add(s.count(2));
        all.add(s.pan(0, 0, 0));
    }

    private static int answer(SunnyPans s, int v, Ask ask) {
        try {
            return ask.of(s, v);
        } catch (NoSuchElementException e) {
            return THREW_MISSING;
        } catch (IllegalArgumentException e) {
            return THREW_BAD;
        }
    }

    // ---- what is checked of a call ----

    /** The call throws so, is counted once, and leaves all else as it was. */
    private static void refuses(Class<?> want, Make make, int v, Ask ask) {
        SunnyPans s = make.made();
        int place = s.fault();
        int got = answer(s, v, ask);
        if (got != (want == MISSING ? THREW_MISSING : THREW_BAD)) {
            wrong("by " + v + " answered " + got + ", due is " + want);
        }
        due(want == MISSING ? 1 : 0, s.status(0));
        due(want == BAD ? 1 : 0, s.status(1));
        due(place, s.fault());
        leaves(make, s);
    }

    /** All that can be asked of it is as of a new one. */
    private static void leaves(Make make, SunnyPans s) {
        List<Integer> want = allOf(make.made());
        List<Integer> got = allOf(s);
        if (!got.equals(want)) {
            wrong("the object is not as before: " + got + ", due is " + want);
        }
    }

    /** From the least to the most the call is answered, beyond both it is refused. */
    private static void limits(Class<?> want, Make make, int least, int most, Ask ask) {
        for (int v : new int[] {least, most}) {
            SunnyPans s = make.made();
            int got = answer(s, v, ask);
            if (got == THREW_MISSING || got == THREW_BAD) {
                wrong("refused " + v);
            }
            due(0, s.status(0) + s.status(1));
        }
        for (int v : new int[] {least - 1, most + 1, Integer.MIN_VALUE, Integer.MAX_VALUE}) {
            refuses(want, make, v, ask);
        }
    }

    /** A text with a fault: its answer and its place; all but the tape, which is empty then, stays. */
    private static void faulty(int kind, int place, String reader, String text) {
        faulty(EdgeTest::rich, kind, place, reader, text);
    }

    private static void faulty(Make make, int kind, int place, String reader, String text) {
        SunnyPans s = withoutTape(make.made());
        int got = read(s, reader, text);
        if (got != kind - 10 || s.fault() != place) {
            wrong(reader + " of \"" + text + "\" answered " + got + ", its fault is at " + s.fault() + "; due are "
                + (kind - 10) + " and " + place);
        }
        due(0, s.status(0) + s.status(1));
        leaves(() -> withoutTape(make.made()), s);
    }

    /** A law without a text is a fault, which leaves all but the tape. */
    private static SunnyPans withoutTape(SunnyPans s) {
        s.law(0);
        return s;
    }

    /** A text without a fault. */
    private static void stands(String reader, String text) {
        SunnyPans s = richWithoutTape();
        int got = read(s, reader, text);
        if (got < 0 || s.fault() != -1 || s.count(1) != 0) {
            wrong(reader + " of \"" + text + "\" answered " + got + ", its fault is at " + s.fault());
        }
    }

    /** A number of a text: from least to most it stands, beyond both it is a fault 2 at its first byte. */
    private static void numbers(String reader, String ahead, int least, int most, String behind) {
        int place = ahead.length();
        stands(reader, ahead + least + behind);
        stands(reader, ahead + most + behind);
        stands(reader, ahead + "00000" + most + behind);
        if (least > 0) {
            faulty(2, place, reader, ahead + (least - 1) + behind);
            faulty(2, place, reader, ahead + "000" + (least - 1) + behind);
        }
        faulty(2, place, reader, ahead + (most + 1) + behind);
        faulty(2, place, reader, ahead + "0" + (most + 1) + behind);
        // what numbers of 32 bits and of 64 bits that wrap would take for the least one
        faulty(2, place, reader, ahead + (4_294_967_296L + least) + behind);
        faulty(2, place, reader, ahead + "1844674407370955161" + (6 + least) + behind);
        faulty(1, place, reader, ahead + "x" + behind);
        faulty(1, place, reader, ahead + "-1" + behind);
        if (place > 0) {
            faulty(1, place, reader, ahead);
        }
    }

    // ---- 1: a new object ----

    private static void newObject() {
        says("A WORKS without CLAUSES");
        int[] want = {4, 4, 0, 0, -1, 0, 0, 0, 0, 0, 0, 0, 0};
        for (int what = 0; what <= 12; what++) {
            due(want[what], x.told(what));
        }
        for (int what = 0; what <= 2; what++) {
            due(0, x.count(what));
        }
        due(-1, x.fault());
        due(0, x.status(0));
        due(0, x.status(1));
        due(-1, x.undo());
        due(-1, x.restore());
        due(6, x.way(0, 0, 3, 3));
        due(16, x.dryland(3, 3));
        due(16, x.ahead(0, 1));
        due(16, x.fits(1, 0));
        due(20, x.would(0, 0, 40, 0, 0, 0, 0, 0));
        leaves(EdgeTest::withoutClauses, x);
        x = new SunnyPans();
        for (int y : new int[] {0, 3}) {
            due(0, x.pan(0, y, 0) + x.pan(3, y, 1) + x.pan(0, y, 3));
        }
        due(THREW_MISSING, answer(x, 4, (s, v) -> s.pan(v, 0, 0)));
        due(THREW_MISSING, answer(x, 4, (s, v) -> s.pan(0, v, 0)));
        due(THREW_MISSING, answer(x, 0, (s, v) -> s.loss(v)));

        says("An object is used for at most 512 calls");
        for (int i = 1; i <= 510; i++) {
            due(THREW_BAD, answer(x, 13, (s, v) -> s.told(v)));
        }
        due(510, x.status(1));
        due(4, x.told(0));
    }

    private static SunnyPans withoutClauses() {
        SunnyPans s = new SunnyPans();
        s.works(0);
        return s;
    }

    // ---- terms: the works ----

    private static void worksTexts() {
        says("A WORKS is a text of up to 600 bytes");
        due(0, works(times(60, "size 2 3; ")));
        due(2, x.told(0));
        due(0, works(times(600, " ")));
        due(4, x.told(0));
        due(1, works(times(589, " ") + "hour 0 40; "));
        faulty(1, 599, "works", times(599, " ") + "!");
        faulty(1, 600, "works", times(592, " ") + "size 1 1");

        says("{ CLAUSE ; }, at most 60");
        due(0, works(""));
        due(0, works(times(59, "size 1 1;") + "size 2 2;"));
        due(2, x.told(0));
        faulty(3, 540, "works", times(60, "size 1 1;") + "size 2 2;");
        faulty(3, 540, "works", times(60, "size 1 1;") + "hour 0 0;");
        faulty(3, 542, "works", times(60, "size 1 1;") + "  pan 0 0 1 1;");
        faulty(3, 540, "works", times(60, "size 1 1;") + "heap");

        says("size W H (1 to 8 each");
        numbers("works", "size ", 1, 8, " 1;");
        numbers("works", "size 1 ", 1, 8, ";");
        for (int n = 1; n <= 8; n++) {
            works("size " + n + " " + (9 - n) + ";");
            due(n, x.told(0));
            due(9 - n, x.told(1));
        }

        says("4 and 4 without", "size 8 1;");
        works("hour 0 0;");
        due(4, x.told(0));
        due(4, x.told(1));

        says("the last counts", "size 1 2;size 8 7;");
        due(8, x.told(0));
        due(7, x.told(1));
        works("size 8 7;size 1 2;");
        due(1, x.told(0));
        due(2, x.told(1));
    }

    private static void worksHours() {
        says("hour D R (HOURS, numbered from 0 on, 10 at most");
        due(10, works("hour 0 1;hour 1 2;hour 2 3;hour 3 4;hour 4 5;hour 5 6;hour 6 7;hour 7 8;hour 0 9;hour 1 40;"));
        due(10, x.told(2));
        due(0, x.hour(0, 0));
        due(1, x.hour(0, 1));
        due(0, x.hour(8, 0));
        due(9, x.hour(8, 1));
        due(1, x.hour(9, 0));
        due(40, x.hour(9, 1));
        faulty(3, 90, "works", times(10, "hour 0 0;") + "hour 0 0;");
        faulty(3, 91, "works", times(10, "hour 0 0;") + " hour");
        due(0, works(""));
        due(0, x.told(2));
        // those of a works ahead don't count
        due(10, works(times(10, "hour 0 0;")));
        due(10, works(times(10, "hour 1 1;")));
        x = richWithoutTape();
        due(10, works(times(10, "hour 1 1;")));

        says("SIDE D, 0 to 7, REACH R, 0 to 40");
        numbers("works", "hour ", 0, 7, " 0;");
        numbers("works", "hour 0 ", 0, 40, ";");
        due(2, works("hour 0 0;hour 7 40;"));
        due(0, x.hour(0, 0));
        due(0, x.hour(0, 1));
        due(7, x.hour(1, 0));
        due(40, x.hour(1, 1));
    }

    private static void worksPlaces() {
        says("pan X Y B G (BRINE B, SALT G, 0 to 999 each)");
        numbers("works", "pan 0 0 ", 0, 999, " 0;");
        numbers("works", "pan 0 0 0 ", 0, 999, ";");
        works("pan 0 0 999 0;pan 1 0 0 999;");
        due(999, x.pan(0, 0, 0));
        due(0, x.pan(0, 0, 1));
        due(0, x.pan(1, 0, 0));
        due(999, x.pan(1, 0, 1));

        says("heap X Y Z (Z 1 to 999 GRAMS)");
        numbers("works", "heap 0 0 ", 1, 999, ";");
        works("heap 0 0 1;heap 1 0 999;");
        due(1, x.pan(0, 0, 3));
        due(999, x.pan(1, 0, 3));
    }

    private static void worksBeyond() {
        says("X, Y: 0 to 7 each");
        numbers("works", "pan ", 0, 7, " 0 0 0;");
        numbers("works", "pan 0 ", 0, 7, " 0 0;");
        numbers("works", "heap ", 0, 7, " 0 1;");
        numbers("works", "heap 0 ", 0, 7, " 1;");
        due(0, works("size 1 1;pan 7 7 9 9;heap 7 7 9;"));
        due(0, x.told(5) + x.told(6) + x.told(7));

        says("of one place the last pan, the last heap counts", "pan 0 0 9 8;pan 0 0 3 2;heap 1 0 7;heap 1 0 5;");
        due(3, x.told(5));
        due(2, x.told(6));
        due(5, x.told(7));
        works("pan 0 0 9 8;pan 0 0 0 0;");
        due(0, x.told(5) + x.told(6));

        says("those beyond W or H, as they are told at the end, are left out",
            "size 3 2;pan 2 1 1 2;pan 3 0 4 4;pan 0 2 4 4;heap 3 1 4;heap 2 2 4;");
        due(1, x.told(5));
        due(2, x.told(6));
        due(0, x.told(7));
        works("size 8 8;pan 2 1 1 2;pan 3 1 4 4;heap 2 0 7;heap 0 2 4;size 3 2;");
        due(1, x.told(5));
        due(7, x.told(7));
        works("size 1 1;pan 7 7 1 2;heap 6 7 7;size 8 8;");
        due(1, x.pan(7, 7, 0));
        due(7, x.pan(6, 7, 3));
        works("pan 3 3 1 0;pan 4 3 2 0;pan 3 4 4 0;heap 2 3 5;heap 4 2 7;heap 2 4 7;");
        due(1, x.told(5));
        due(5, x.told(7));
        works("size 3 1;hour 2 40;heap 3 0 999;");
        due(0, x.told(11));
        due(0, x.hour(0, 2));

        says("where a heap is told, ahead of a pan or behind it, there is no BRINE and no SALT",
            "pan 0 0 9 8;heap 0 0 1;heap 1 0 1;pan 1 0 9 8;heap 2 0 7;pan 2 0 0 0;pan 3 0 9 8;");
        due(9, x.told(5));
        due(8, x.told(6));
        due(9, x.told(7));
        due(0, x.pan(0, 0, 0) + x.pan(0, 0, 1) + x.pan(1, 0, 0) + x.pan(1, 0, 1));

        says("It is DAY 0, HOUR 0 is next at first; STORE is 0", "hour 0 0;hour 0 0;");
        due(0, x.told(3));
        due(0, x.told(4));
        due(0, x.told(8));
    }

    // ---- terms: the law ----

    private static int asked(String law) {
        due(1, law(law));
        return x.would(9, 8, 7, 6, 5, 4, 3, 2);
    }

    private static void lawTexts() {
        says("A LAW is a text of up to 150 bytes");
        due(7, asked(times(149, " ") + "7"));
        due(8, asked("8" + times(149, " ")));
        due(75, asked(times(74, "1+") + "01"));
        due(1, fed(600, "1").law(150));
        refuses(BAD, () -> fed(600, "1"), 151, (s, n) -> s.law(n));

        says("E, at the end nothing more");
        stands("law", "1  ");
        faulty(1, 1, "law", "1;");
        faulty(1, 2, "law", "1 2");
        faulty(1, 1, "law", "1)");
        faulty(1, 0, "law", "");
        faulty(1, 2, "law", "  ");

        says("without: 10 + reach / 4");
        int[][] reaches = {{0, 10}, {3, 10}, {4, 11}, {39, 19}, {40, 20}};
        for (int[] r : reaches) {
            due(r[1], x.would(9_999, 9_999, r[0], 7, 9, 400, 7, 7));
        }
        law("5");
        due(5, x.would(0, 0, 40, 0, 0, 0, 0, 0));
        works("");
        due(20, x.would(0, 0, 40, 0, 0, 0, 0, 0));

        says("what comes out, 0 at least, 99 at most");
        int[][] outs = {{-999, 0}, {-2, 0}, {-1, 0}, {0, 0}, {1, 1}, {2, 2}, {98, 98}, {99, 99}, {100, 99}, {999, 99}};
        for (int[] o : outs) {
            due(o[1], asked(o[0] < 0 ? "0-" + -o[0] : "" + o[0]));
        }

        says("N (0 to 999)");
        numbers("law", "", 0, 999, "");
        numbers("law", "brine+", 0, 999, "*2");
        numbers("law", "most[", 0, 999, ",1]");
        numbers("law", "(", 0, 999, ")");
        due(99, asked("999-900"));
    }

    private static void lawNames() {
        String[] names = {"brine", "salt", "reach", "side", "hour", "day", "col", "row"};
        says("N, brine, salt, reach, side, hour, day, col, row");
        for (int i = 0; i < names.length; i++) {
            due(9 - i, asked(names[i]));
            faulty(1, 0, "law", names[i].substring(1));
            faulty(1, 0, "law", names[i].substring(0, names[i].length() - 1));
            faulty(1, 0, "law", names[i] + "s");
        }

        says("brine, salt (of the PAN by now), reach (R of the HOUR), side (its D), hour (its number), day, col, row",
            "size 8 8;" + times(9, "hour 0 0;") + "hour 7 40;pan 7 6 90 80;");
        int[] want = {90, 80, 40, 7, 9, 0, 7, 6};
        for (int i = 0; i < names.length; i++) {
            law(names[i]);
            due(want[i], x.dries(7, 6, 9));
        }
        law("2");
        due(10, work("again 10[hour;];"));
        law("day");
        due(1, x.dries(7, 6, 9));
        law("brine");
        due(70, x.dries(7, 6, 9));
    }

    private static void lawValues() {
        says("E: T { + or - T }. T: U { * or / or % U }");
        due(5, asked("10-3-2"));
        due(9, asked("10-(3-2)"));
        due(14, asked("2+3*4"));
        due(10, asked("2*3+4"));
        due(4, asked("2*3-4/2"));
        due(5, asked("100/10/2"));
        due(3, asked("7*5%8"));
        due(2, asked("17%5%3"));
        due(12, asked("9%5*3"));

        says("least [ E , E ], most [ E , E ]");
        due(3, asked("least[3,4]"));
        due(3, asked("least[4,3]"));
        due(4, asked("most[3,4]"));
        due(4, asked("most[4,3]"));
        due(4, asked("most[4,4]+least[0-1,0]-most[0-1,0-2]"));

        says("Values are whole numbers of 32 bits that wrap");
        due(0, asked(LEAST));
        due(99, asked(LEAST + "-1"));
        due(0, asked("(" + LEAST + "-1)+1"));
        due(99, asked("0-(" + LEAST + "+1)"));
        due(0, asked("0-" + LEAST));
        due(7, asked(LEAST + "*2+7"));
        due(7, asked(LEAST + "+" + LEAST + "+7"));
        due(7, asked("999*999*999*5-999*999*999*4-999*999*999+7"));
    }

    private static void lawDivides() {
        says("/ cuts");
        due(3, asked("7/2"));
        due(3, asked("6/2"));
        due(2, asked("5/2"));
        due(7, asked("10+(0-7)/2"));
        due(7, asked("10+7/(0-2)"));
        due(10, asked("10+(0-1)/2"));
        due(0, asked(LEAST + "/(0-1)"));
        due(64, asked("0-" + LEAST + "/512/512/128"));

        says("% leaves (with the sign of what is divided)");
        due(1, asked("7%2"));
        due(0, asked("6%2"));
        due(9, asked("10+(0-7)%2"));
        due(11, asked("10+7%(0-2)"));
        due(9, asked("10+(0-7)%(0-2)"));
        due(4, asked(LEAST + "%(0-1)+4"));

        says("by 0 both are 0");
        due(10, asked("10+7/0"));
        due(10, asked("10+7%0"));
        due(10, asked("10+0/0+0%0"));
        due(10, asked("10+(0-7)/(day-4)+" + LEAST + "%(day-4)"));
        due(17, asked("10+7/(day-3)+7%(day-3)"));
    }

    private static void lawOpen() {
        says("a 7th of ( least most that is open at one time");
        due(5, asked("((((((5))))))"));
        due(5, asked("(((((least[5,6])))))"));
        due(6, asked("most[most[most[most[most[most[1,2],3],4],5],6],0]"));
        due(6, asked("least[9,least[9,least[9,least[9,least[9,least[9,6]]]]]]"));
        due(21, asked("((((((1))))))+((((((20))))))"));
        due(9, asked("most[(((((1))))),least[least[least[least[least[9,10],10],10],10],10]]"));
        faulty(3, 6, "law", "(((((((5)))))))");
        faulty(3, 6, "law", "((((((least[5,6]))))))");
        faulty(3, 6, "law", "((((((most[5,6]))))))");
        faulty(3, 30, "law", "most[most[most[most[most[most[(1),1],1],1],1],1],1]");
        faulty(3, 30, "law", "most[most[most[most[most[most[most[1,1],1],1],1],1],1],1]");
        faulty(3, 48, "law", "least[9,least[9,least[9,least[9,least[9,least[9,least[9,6]]]]]]]");
        faulty(3, 12, "law", "(1)+((((((  (2)))))))");
    }

    // ---- terms: work and book ----

    private static void workTexts() {
        says("WORK is a text of up to 150 bytes");
        due(15, work(times(15, "rain    1;")));
        due(0, work(times(150, " ")));
        due(0, fed(600).work(150));
        refuses(BAD, () -> fed(600), 151, (s, n) -> s.work(n));

        says("X below W, Y below H");
        numbers("work", "let ", 0, 2, " 0 1;");
        numbers("work", "let 0 ", 0, 1, " 1;");
        numbers("work", "rake ", 0, 2, " 0 0 0;");
        numbers("work", "rake 0 ", 0, 1, " 0 0;");
        numbers("work", "rake 0 0 ", 0, 2, " 0;");
        numbers("work", "rake 0 0 0 ", 0, 1, ";");
        numbers("work", "cart ", 0, 2, " 0;");
        numbers("work", "cart 0 ", 0, 1, ";");
        for (int n = 1; n <= 8; n++) {
            works("size " + n + " " + (9 - n) + ";");
            due(1, work("let " + (n - 1) + " " + (8 - n) + " 1;"));
            due(-8, work("let " + n + " 0 1;"));
            due(-8, work("let 0 " + (9 - n) + " 1;"));
        }
    }

    private static void workNumbers() {
        says("let X Y N (N 1 to 999)");
        numbers("work", "let 0 0 ", 1, 999, ";");
        says("rain N (1 to 99)");
        numbers("work", "rain ", 1, 99, ";");
        due(1, work("rain 99;"));
        due(99, x.pan(3, 3, 0));

        says("again N [ { STEP ; } ] (N 0 to 60)");
        numbers("work", "again ", 0, 60, "[cart 0 0;];");
        due(0, work("again 0[rain 1;];"));
        due(0, x.pan(3, 3, 0));
        due(1, work("again 1[rain 1;];"));
        due(1, x.pan(3, 3, 0));
        due(60, work("again 60[rain 1;];"));
        due(61, x.pan(3, 3, 0));
        due(0, work("again 0[];again 1[];again 60[];"));

        says("a 7th again that is open at one time");
        due(1, work(times(6, "again 1[") + "rain 1;" + times(6, "];")));
        due(1, work(times(6, "again 1[") + times(6, "];") + times(6, "again 1[") + "rain 1;" + times(6, "];")));
        faulty(3, 48, "work", times(7, "again 1[") + "rain 1;" + times(7, "];"));
        faulty(3, 49, "work", times(6, "again 0[") + " again");
        faulty(3, 108, "work", times(6, "again 1[") + times(6, "];") + times(7, "again 1["));
        due(-9, work(times(6, "again 1[")));
        due(1, work(times(6, "again 1[") + "rain 1;" + times(6, "];")));
        due(-9, work("again 1["));
        due(-9, work("rain 1;];"));
        due(7, x.fault());
    }

    private static void bookTexts() {
        says("A BOOK is a text of up to 60 bytes", "size 8 8;");
        due(8, book(EIGHT + times(12, " ")));
        due(1, book(times(54, " ") + "7 7 1;"));
        faulty(EdgeTest::largest, 1, 59, "book", EIGHT + times(11, " ") + ";");
        due(0, fed(600).book(60));
        refuses(BAD, () -> fed(600), 61, (s, n) -> s.book(n));

        says("{ X Y B ; } (X below W, Y below H, B 0 to 9,999)");
        numbers("book", "", 0, 2, " 0 1;");
        numbers("book", "0 ", 0, 1, " 1;");
        numbers("book", "0 0 ", 0, 9_999, ";");
    }

    private static void bookLines() {
        says("8 lines at most", "size 8 8;");
        due(0, book(""));
        due(0, x.told(9));
        due(1, book("7 7 1;"));
        due(1, x.told(9));
        due(8, book(EIGHT));
        due(8, x.told(9));
        due(8, book(EIGHT + "  "));
        faulty(EdgeTest::largest, 3, 48, "book", EIGHT + "0 1 1;");

        says("(of a 9th line X alone is looked at)");
        faulty(EdgeTest::largest, 3, 48, "book", EIGHT + "0");
        faulty(EdgeTest::largest, 3, 49, "book", EIGHT + " 0 9 99999;");
        faulty(EdgeTest::largest, 3, 48, "book", EIGHT + "7x");
        faulty(EdgeTest::largest, 3, 48, "book", EIGHT + "0 0 1;");
        faulty(EdgeTest::largest, 2, 48, "book", EIGHT + "8");
        faulty(EdgeTest::largest, 1, 48, "book", EIGHT + "x");
        faulty(EdgeTest::largest, 1, 48, "book", EIGHT + ";");

        says("no X, Y twice");
        stands("book", "0 1 1;1 0 1;0 0 1;");
        faulty(2, 8, "book", "0 0 1;0 0 1;");
        faulty(2, 14, "book", "0 0 1;1 1 2;0 0");
        faulty(2, 15, "book", "0 0 1;1 1 2;01 01");
        faulty(EdgeTest::largest, 2, 44, "book", EIGHT.substring(0, 42) + "6 0 2;");
    }

    // ---- terms: faults ----

    private static void numbersAndWords() {
        says("Numbers: digits, as many as stand there");
        stands("works", "size 0000000000000000000000008 1;");
        faulty(2, 5, "works", "size 12;");
        faulty(1, 8, "works", "size 1 2");
        faulty(1, 9, "works", "size 1 2 3;");
        faulty(1, 6, "works", "size 1/1;");
        faulty(1, 6, "works", "size 1:1;");
        faulty(1, 3, "law", "99 9");
        due(9, asked("0000009"));

        says("WORDS: small letters, as many as stand there");
        stands("works", "hour0 0;pan0 0 0 0;heap1 1 1;size1 1;");
        stands("work", "let0 0 1;again1[hour;];");
        faulty(1, 0, "works", "hours 0 0;");
        faulty(1, 0, "works", "hou 0 0;");
        faulty(1, 0, "works", "ahour 0 0;");
        faulty(1, 0, "works", "zhour 0 0;");
        faulty(1, 0, "works", "houra 0 0;");
        faulty(1, 0, "works", "hourz 0 0;");
        faulty(1, 0, "works", "gour 0 0;");
        faulty(1, 0, "works", "hous 0 0;");
        faulty(1, 0, "works", "tize 1 1;");
        faulty(1, 0, "works", "ban 0 0 1 1;");
        faulty(1, 0, "works", "leap 0 0 1;");
        faulty(1, 0, "works", "heat 0 0 1;");
        faulty(1, 0, "work", "bet 0 0 1;");
        faulty(1, 0, "work", "lake 0 0 0 0;");
        faulty(1, 0, "work", "dart 0 0;");
        faulty(1, 0, "work", "pain 1;");
        faulty(1, 0, "work", "hoar;");
        faulty(1, 0, "work", "acain 1[];");
        faulty(1, 0, "law", "feast[1,2]");
        faulty(1, 0, "law", "lost[1,2]");
        faulty(1, 0, "works", "Hour 0 0;");
        faulty(1, 0, "works", "hOUR 0 0;");
        faulty(1, 4, "works", "hour`0 0;");
        faulty(1, 4, "works", "hour{0 0;");
        faulty(1, 4, "works", "hourA0 0;");
        faulty(1, 0, "work", "hourhour;");
        faulty(1, 5, "work", "hour hour;");
        faulty(1, 0, "law", "brinesalt");
        faulty(1, 6, "law", "brine salt");
    }

    private static void blanks() {
        says("blanks (32) may stand ahead of all these, and at the end");
        stands("works", "  size   3   2  ;  hour 0 0 ; ");
        stands("law", " 1 + 2 * ( 3 ) % most [ 4 , 5 ] ");
        stands("work", " again 1 [ let 0 0 1 ; ] ; ");
        stands("book", " 0 0 1 ;   1 0 1; ");
        for (int c : new int[] {0, 9, 10, 31, 33, 127, 160, 255}) {
            faulty(1, 0, "works", (char) c + "size 3 2;");
            faulty(1, 4, "works", "size" + (char) c + "3 2;");
            faulty(1, 8, "works", "size 3 2" + (char) c + ";");
            faulty(1, 9, "works", "size 3 2;" + (char) c);
            faulty(1, 0, "law", (char) c + "7");
            faulty(1, 1, "law", "7" + (char) c);
            faulty(1, 0, "work", (char) c + "hour;");
            faulty(1, 5, "work", "hour;" + (char) c);
            faulty(1, 0, "book", (char) c + "0 0 1;");
            faulty(1, 6, "book", "0 0 1;" + (char) c);
        }
    }

    private static void firstFault() {
        says("FAULTS, the first from the left, at its first byte");
        faulty(2, 5, "works", "size 9 9;x");
        faulty(2, 7, "works", "hour 0 41");
        faulty(2, 8, "works", "pan 0 0 1000 x");
        faulty(1, 0, "works", "pans 8 8 1000;");
        faulty(2, 0, "law", "1000+(");
        faulty(1, 0, "law", "x+1000");
        faulty(2, 4, "work", "let 3 0 0;");
        faulty(2, 9, "work", "let 0 0  1000;x");
        faulty(2, 0, "book", "3 2 10000");
    }

    private static void whatCantStand() {
        says("1 what can't stand there (at the length, if the text ends too early)");
        String[] works = {"size", "size ", "size 1", "size 1 1", "size 1 1   ", "heap 0 0 1", "hour 0 0;pan 0 0 0"};
        for (String text : works) {
            faulty(1, text.length(), "works", text);
        }
        String[] laws = {"", " ", "1+", "1+ ", "(", "(1", "most", "most[", "most[1", "most[1,", "most[1,1", "5-(1)*"};
        for (String text : laws) {
            faulty(1, text.length(), "law", text);
        }
        String[] steps = {"hour", "let 0 0", "let 0 0 ", "again", "again 1", "again 1[", "again 1[hour",
            "again 1[hour;",
            "again 1[]", "again 1[again 1[];", "rain 1;cart 0 0"};
        for (String text : steps) {
            faulty(1, text.length(), "work", text);
        }
        String[] lines = {"0", "0 0", "0 0 1", "0 0 1 ", "0 0 1;1"};
        for (String text : lines) {
            faulty(1, text.length(), "book", text);
        }
        faulty(1, 0, "works", ";");
        faulty(1, 9, "works", "size 1 1;;");
        faulty(1, 0, "work", "];");
        faulty(1, 10, "work", "again 1[];]");
        faulty(1, 6, "work", "again [];");
        faulty(1, 6, "book", "0 0 1;;");
        faulty(1, 1, "law", "()");
        faulty(1, 8, "law", "most[1,2,3]");
        faulty(1, 6, "law", "most[1]");
        faulty(1, 5, "law", "least(1,2)");

        // behind the text what stands on the tape counts for nothing
    }

    private static void restOfTheTape() {
        says("The first n bytes of the TAPE (empty then)");
        put(x, "size 3 2;size 9 9;");
        due(0, x.works(9));
        due(3, x.told(0));
        put(x, "size 1 11;");
        due(-9, x.works(8));
        due(8, x.fault());
        put(x, "12");
        due(1, x.law(1));
        due(1, x.would(0, 0, 0, 0, 0, 0, 0, 0));
        put(x, "hours");
        due(-9, x.work(4));
        due(4, x.fault());
    }

    private static void leastFault() {
        says("of one [place] the least");
        faulty(1, 540, "works", times(60, "size 1 1;") + "sizes 1 1;");
        faulty(1, 540, "works", times(60, "size 1 1;") + "5");
        faulty(1, 90, "works", times(10, "hour 0 0;") + "hours 0 0;");
        faulty(3, 540, "works", times(10, "hour 0 0;") + times(50, "size 1 1;") + "hour 9 99;");
        faulty(1, 2, "law", "1 1000");
        faulty(1, 7, "law", "((((((1(");
        faulty(1, 7, "law", "((((((1most[1,1]");
        faulty(1, 6, "law", "((((((mos[1,1]");
        faulty(1, 48, "work", times(6, "again 0[") + "agains 1[");
        faulty(1, 4, "work", "hour1000;");
        faulty(EdgeTest::largest, 2, 48, "book", EIGHT + "99 0 1;");
    }

    // ---- terms: shadows ----

    private static void sides() {
        says("SIDES: 0 north, 1 north-east, 2 east, and so on, round to 7, north-west; away from the sun's SIDE",
            "size 5 5;heap 2 2 9;hour 0 10;hour 1 10;hour 2 10;hour 3 10;hour 4 10;hour 5 10;hour 6 10;hour 7 10;");
        // where the shadow of the heap at 2, 2 lies: by x, y
        int[][] lies = {{2, 3}, {1, 3}, {1, 2}, {1, 1}, {2, 1}, {3, 1}, {3, 2}, {3, 3}};
        for (int side = 0; side < 8; side++) {
            for (int y = 0; y < 5; y++) {
                int bits = (lies[side][1] == y ? 1 << lies[side][0] : 0) | (y == 2 ? 4 : 0);
                due(bits, x.shade(side, y));
            }
        }
    }

    private static void shadows() {
        says("HIGH: Z by 50 (cut), and 1");
        int[][] heights = {{1, 1}, {49, 1}, {50, 2}, {99, 2}, {100, 3}, {949, 19}, {950, 20}, {999, 20}};
        for (int[] h : heights) {
            works("heap 3 3 " + h[0] + ";");
            due(h[1], x.pan(3, 3, 4));
            due(0, x.pan(3, 2, 4));
        }

        says("as many as HIGH times R by 10 (cut)");
        int[][] lengths = {{49, 0, 0}, {49, 9, 0}, {49, 10, 1}, {49, 19, 1}, {49, 20, 2}, {49, 40, 4}, {50, 4, 0},
            {50, 5, 1}, {50, 9, 1}, {50, 10, 2}, {149, 3, 0}, {150, 3, 1}, {149, 4, 1}, {999, 0, 0}, {999, 1, 2},
            {999, 3, 6}, {949, 4, 7}, {899, 4, 7}, {999, 4, 7}, {999, 40, 7}};
        for (int[] l : lengths) {
            works("size 8 1;hour 2 " + l[1] + ";heap 7 0 " + l[0] + ";");
            due(l[2], x.cast(7, 0, 0));
            due(l[2] + 1, x.hour(0, 2));
            due(256 - (1 << 7 - l[2]), x.shade(0, 0));
        }
    }

    private static void shadowsAtTheEdge() {
        says("the next places, in a straight line (aslant, if the SIDE is): as many places as lie within the works");
        String[] corners = {"hour 6 40;heap 7 0 999;", "hour 6 40;heap 7 3 999;", "hour 2 40;heap 0 1 999;",
            "hour 2 40;heap 0 7 999;", "hour 3 40;heap 0 0 999;", "hour 7 40;heap 7 7 999;", "hour 1 40;heap 0 7 999;",
            "hour 5 40;heap 7 0 999;", "hour 4 40;heap 3 0 999;", "hour 0 40;heap 3 7 999;", "hour 1 40;heap 0 3 999;",
            "hour 5 40;heap 7 3 999;", "hour 3 40;heap 0 3 999;", "hour 7 40;heap 7 3 999;"};
        for (String corner : corners) {
            works("size 8 8;" + corner);
            due(1, x.hour(0, 2));
            due(0, x.cast(corner.charAt(15) - '0', corner.charAt(17) - '0', 0));
        }
        works("size 8 8;hour 5 40;heap 6 1 999;");
        due(1, x.cast(6, 1, 0));
        due(128, x.shade(0, 0));
        works("size 8 8;hour 7 40;heap 0 0 999;");
        due(7, x.cast(0, 0, 0));
        due(128, x.shade(0, 7));
        works("size 3 2;hour 6 40;hour 0 40;heap 1 0 999;");
        due(1, x.cast(1, 0, 0));
        due(1, x.cast(1, 0, 1));
        due(2, x.hour(0, 2));
        due(2, x.shade(1, 1));
    }

    private static void inShade() {
        says("how far the HEAP lays its shadow: 0 without a HEAP", "hour 2 10;heap 1 0 1;");
        due(1, x.cast(1, 0, 0));
        due(0, x.cast(0, 0, 0));
        due(0, x.cast(3, 3, 0));
        due(1, x.pan(0, 0, 6));
        due(1, x.pan(1, 0, 6));
        due(0, x.pan(2, 0, 6));

        says("A PAN is in SHADE at an HOUR, if a shadow lies on it, or a HEAP stands there",
            "size 8 1;hour 2 0;hour 2 10;heap 7 0 9;heap 5 0 60;");
        due(128 + 32, x.shade(0, 0));
        due(128 + 64 + 32 + 16 + 8, x.shade(1, 0));
        due(2, x.pan(2, 0, 5));
        due(1, x.pan(3, 0, 5));
        due(0, x.pan(5, 0, 5));
        due(1, x.pan(5, 0, 6));
        due(0, x.pan(6, 0, 6));
        work("hour;");
        due(1, x.pan(6, 0, 6));
        due(0, x.pan(2, 0, 6));

        says("SUN: at how many HOURS of a DAY it is not in SHADE; or there are no HOURS", "heap 0 0 9;");
        due(0, x.pan(0, 0, 5));
        due(0, x.pan(0, 0, 6));
        due(0, x.pan(1, 0, 5));
        works("size 8 8;" + TEN_HOURS + "heap 0 0 9;");
        due(0, x.pan(0, 0, 5));
        due(0, x.pan(4, 4, 5));
        due(10, x.pan(5, 5, 5));
        due(10, x.pan(4, 5, 5));
    }

    private static void pansAndHeaps() {
        says("STRENGTH: 1,000 times its SALT by SALT and BRINE together (cut); 0, if it has neither",
            "pan 0 0 999 1;pan 1 0 0 1;pan 2 0 1 0;pan 0 1 1 2;pan 1 1 2 1;pan 2 1 998 999;");
        int[][] strengths = {{0, 0, 1}, {1, 0, 1_000}, {2, 0, 0}, {3, 0, 0}, {0, 1, 666}, {1, 1, 333}, {2, 1, 500}};
        for (int[] s : strengths) {
            due(s[2], x.pan(s[0], s[1], 2));
        }
        work("rain 1;");
        due(0, x.pan(0, 0, 2));
        due(500, x.pan(1, 0, 2));
    }

    private static void dry() {
        says("It is DRY with no BRINE and no HEAP", "size 2 2;pan 0 0 1 9;pan 1 0 0 1;heap 0 1 1;");
        due(2, x.ahead(0, 1));
        due(1, x.told(12));
        due(1, x.told(11));
        works("size 2 2;pan 0 0 1 0;pan 1 0 1 1;heap 0 1 1;heap 1 1 9;");
        due(0, x.ahead(0, 1));
        due(0, x.told(12));
        due(2, x.told(11));
        works("size 8 8;");
        due(64, x.ahead(0, 1));
        due(0, x.told(12));
    }

    private static void strongestGreatestNearest() {
        says("of most STRENGTH of those that have SALT, of alike ones the first (by y, then x); NONE: none has SALT",
            "pan 2 0 1 0;heap 1 0 9;");
        due(-1, x.strongest(0));
        due(-1, x.strongest(1));
        works("pan 3 0 9 1;pan 0 1 18 2;pan 0 0 5 0;");
        due(3, x.strongest(0));
        due(100, x.strongest(1));
        works("pan 3 3 0 1;");
        due(33, x.strongest(0));
        due(1_000, x.strongest(1));
        works("size 1 1;pan 0 0 999 1;");
        work("let 0 0 1;");
        due(0, x.strongest(0));
        due(0, x.strongest(1));

        says("The HEAP of most GRAMS, of alike ones the first; NONE both: there is none",
            "heap 3 0 8;heap 0 1 9;heap 1 1 9;");
        due(10, x.greatest(0));
        due(9, x.greatest(1));
        works("heap 0 0 1;");
        due(0, x.greatest(0));
        due(1, x.greatest(1));
        due(0, x.nearest(3, 3));
        works("heap 3 3 1;");
        due(33, x.greatest(0));
        due(1, x.greatest(1));
        work("cart 3 3;");
        due(-1, x.greatest(0));
        due(-1, x.greatest(1));

        says("The HEAP nearest to x, y, of alike ones the first; NONE: there are none", "size 8 8;heap 7 7 1;");
        due(77, x.nearest(0, 0));
        due(77, x.nearest(7, 7));
        works("size 8 8;heap 3 0 1;heap 0 3 1;heap 2 2 1;");
        due(3, x.nearest(0, 0));
        due(30, x.nearest(0, 1));
        due(22, x.nearest(1, 1));
        works("size 8 8;");
        due(-1, x.nearest(7, 7));
    }

    // ---- terms: steps ----

    private static void begunSteps() {
        String rains = "again 60[rain 1;rain 1;rain 1;];";
        String carts = "again 60[cart 0 0;cart 0 0;cart 0 0;];";
        says("200 STEPS at most are begun by one WORK, what would come behind is left out");
        due(198, work(rains + "again 18[rain 1;];rain 1;"));
        due(198, x.pan(0, 0, 0));
        says("200 STEPS: the 200th is begun");
        due(198, work(rains + "again 17[rain 1;];rain 1;rain 1;"));
        due(198, x.pan(0, 0, 0));
        says("200 STEPS: nothing is left out");
        due(197, work(rains + "again 16[rain 1;];rain 1;"));
        due(197, x.pan(0, 0, 0));
        says("(REFUSED ones, too)");
        due(1, work(carts + "again 17[cart 0 0;];rain 1;rain 1;"));
        due(197, x.told(10));
        due(0, work(carts + "again 18[cart 0 0;];rain 1;"));
        due(198, x.told(10));
        due(1, work(carts + "again 17[cart 0 0;];rain 1;cart 0 0;"));
        due(197, x.told(10));
        due(0, work(carts + "again 17[cart 0 0;];cart 0 0;cart 0 0;"));
        due(198, x.told(10));
        says("(an again, too, each time it is come to)");
        due(197, work(rains + "again 17[rain 1;];again 5[rain 1;];rain 1;"));
        due(197, work(rains + "again 16[rain 1;];again 5[rain 1;];rain 1;"));
        due(1, work("again 60[again 0[];again 0[];again 0[];];again 17[again 0[];];rain 1;rain 1;"));
        due(0, work("again 60[again 0[];again 0[];again 0[];];again 18[again 0[];];rain 1;"));
        due(6, work("again 3[again 2[rain 1;];];"));
        due(194, work("again 3[again 2[rain 1;];];" + rains + "again 7[rain 1;];rain 1;rain 1;"));
        due(194, work("again 3[again 2[rain 1;];];" + rains + "again 8[rain 1;];rain 1;"));
        due(199, work("again 60[rain 1;rain 1;rain 1;rain 1;];"));
        due(0, x.told(10));
        says("how many STEPS were done (agains not counted, nor REFUSED ones)");
        due(3, work("again 3[again 1[rain 1;cart 0 0;];];again 0[rain 1;];"));
        due(3, x.told(10));
        due(0, work(""));
        due(0, x.told(10));
    }

    private static void let() {
        says("the PAN has N more BRINE, and N by 8 (cut) more SALT", "size 8 1;");
        due(7, work("let 0 0 1;let 1 0 7;let 2 0 8;let 3 0 15;let 4 0 16;let 5 0 999;let 5 0 1;"));
        int[][] pans = {{1, 0}, {7, 0}, {8, 1}, {15, 1}, {16, 2}, {1_000, 124}, {0, 0}};
        for (int i = 0; i < pans.length; i++) {
            due(pans[i][0], x.pan(i, 0, 0));
            due(pans[i][1], x.pan(i, 0, 1));
        }
        says("STRENGTH of the PAN, were n let in now: N by 8 (cut) more SALT", "size 2 1;pan 1 0 3 5;");
        int[][] poured = {{1, 0}, {7, 0}, {8, 111}, {9, 100}, {15, 62}, {16, 111}, {999, 110}};
        for (int[] p : poured) {
            due(p[1], x.poured(0, 0, p[0]));
        }
        due(1_000 * 5 / (5 + 3 + 7), x.poured(1, 0, 7));
        due(1_000 * 6 / (6 + 3 + 8), x.poured(1, 0, 8));
        due(1_000 * 129 / (129 + 3 + 999), x.poured(1, 0, 999));

        says("REFUSED, if a HEAP is there", "heap 0 0 1;");
        due(-1, x.poured(0, 0, 1));
        due(0, work("let 0 0 1;"));
        due(1, x.told(10));
        due(0, x.told(5));
        due(2, work("cart 0 0;let 0 0 1;"));
        due(1, x.told(5));
    }

    private static void letMostBrine() {
        says("REFUSED, if BRINE would be more than 9,999", "size 2 1;pan 0 0 999 0;");
        due(9, work("again 9[let 0 0 999;];"));
        due(9_990, x.pan(0, 0, 0));
        due(1_116, x.pan(0, 0, 1));
        due(-1, x.poured(0, 0, 10));
        due(-1, x.poured(0, 0, 999));
        due(1_000 * 1_117 / (1_117 + 9_999), x.poured(0, 0, 9));
        due(0, work("let 0 0 10;"));
        due(1, x.told(10));
        due(9_990, x.pan(0, 0, 0));
        due(1_116, x.pan(0, 0, 1));
        due(1, work("let 0 0 9;"));
        due(9_999, x.pan(0, 0, 0));
        due(1_117, x.pan(0, 0, 1));
        due(-1, x.poured(0, 0, 1));
        due(0, work("let 0 0 1;"));
        due(9_999, x.pan(0, 0, 0));
    }

    private static void letMostSalt() {
        says("REFUSED, if SALT would be more than 9,999", "size 1 1;" + times(10, "hour 0 0;") + "pan 0 0 0 999;");
        law("99");
        for (int i = 0; i < 6; i++) {
            due(144, work("again 12[let 0 0 999;again 11[hour;];];"));
        }
        due(999 + 72 * 124, x.pan(0, 0, 1));
        due(0, x.pan(0, 0, 0));
        due(-1, x.poured(0, 0, 584));
        due(1_000 * 9_999 / (9_999 + 583), x.poured(0, 0, 583));
        due(0, work("let 0 0 584;"));
        due(1, x.told(10));
        due(9_927, x.pan(0, 0, 1));
        due(1, work("let 0 0 583;"));
        due(9_999, x.pan(0, 0, 1));
        due(-1, x.poured(0, 0, 8));
        due(0, work("let 0 0 8;"));
        due(583, x.pan(0, 0, 0));
        due(1, work("let 0 0 7;"));
        due(590, x.pan(0, 0, 0));
        due(9_999, x.pan(0, 0, 1));
    }

    private static void rake() {
        says("all SALT of the first PAN comes to the HEAP at the second place, which is there then, if there was none",
            "size 4 1;hour 2 0;pan 0 0 0 5;pan 1 0 0 1;");
        due(0, x.shade(0, 0));
        due(1, work("rake 0 0 3 0;"));
        due(5, x.pan(3, 0, 3));
        due(0, x.pan(0, 0, 1));
        due(1, work("rake 1 0 3 0;"));
        due(8, x.shade(0, 0));
        due(6, x.pan(3, 0, 3));
        due(1, x.told(11));

        says("REFUSED, if the first one is not DRY or has no SALT, the places are one, the second has BRINE or SALT",
            "size 8 1;pan 0 0 0 5;pan 1 0 1 5;heap 2 0 7;pan 4 0 1 0;pan 5 0 0 1;");
        String[] steps = {"rake 1 0 3 0;", "rake 2 0 3 0;", "rake 3 0 6 0;", "rake 3 0 2 0;", "rake 0 0 0 0;",
            "rake 0 0 4 0;", "rake 0 0 5 0;", "rake 2 0 2 0;", "rake 3 0 3 0;"};
        for (String step : steps) {
            due(0, work(step));
            due(1, x.told(10));
        }
        due(11, x.told(6));
        due(7, x.told(7));
        due(2, x.told(5));
        due(33, x.ready(3, 0, 0));
        due(33, x.ready(2, 0, 0));
        due(0, x.ready(0, 0, 0));
        due(0, x.ready(1, 0, 0));
        due(0, x.ready(4, 0, 0));
        due(0, x.ready(5, 0, 0));
    }

    private static void rakeMost() {
        says("(REFUSED, if) the HEAP there would have more than 9,999 GRAMS",
            "size 8 2;" + manyPans() + "pan 3 1 0 1;");
        StringBuilder rakes = new StringBuilder();
        for (int i = 0; i < 10; i++) {
            rakes.append("rake ").append(i % 8).append(' ').append(i / 8).append(" 7 1;");
        }
        due(10, work(rakes.toString()));
        due(9_090, x.pan(7, 1, 3));
        due(4 + 8, x.ready(7, 1, 1));
        due(1, work("rake 2 1 7 1;"));
        due(9_999, x.pan(7, 1, 3));
        due(200, x.pan(7, 1, 4));
        due(0, x.ready(7, 1, 1));
        due(8, x.ready(6, 1, 1));
        due(0, work("rake 3 1 7 1;"));
        due(1, x.told(10));
        due(1, x.pan(3, 1, 1));
        due(9_999, x.told(7));
        says("cart: STORE is more by the GRAMS of the HEAP", "size 8 2;" + manyPans() + "pan 3 1 0 1;");
        work(rakes.toString());
        due(4, work("rake 2 1 7 1;rake 3 1 6 1;cart 7 1;cart 6 1;"));
        due(10_000, x.told(8));
    }

    /** Eleven pans of 909 SALT: 9,999 together. */
    private static String manyPans() {
        StringBuilder b = new StringBuilder();
        for (int i = 0; i < 11; i++) {
            b.append("pan ").append(i % 8).append(' ').append(i / 8).append(" 0 909;");
        }
        return b.toString();
    }

    private static void cartAndRain() {
        says("cart: the HEAP is gone (REFUSED, if there is none)", "size 2 1;hour 2 10;heap 1 0 1;");
        due(3, x.shade(0, 0));
        due(1, work("cart 1 0;cart 1 0;cart 0 0;"));
        due(2, x.told(10));
        due(1, x.told(8));
        due(0, x.told(7));
        due(0, x.shade(0, 0));
        due(0, x.pan(1, 0, 0) + x.pan(1, 0, 1));

        says("rain: each PAN without a HEAP has N more BRINE, 9,999 at most", "size 3 1;pan 0 0 999 0;pan 1 0 998 0;");
        due(18, work("again 9[let 0 0 999;let 1 0 999;];"));
        due(1, work("rain 8;"));
        due(9_998, x.pan(0, 0, 0));
        due(9_997, x.pan(1, 0, 0));
        due(1, work("rain 1;"));
        due(9_999, x.pan(0, 0, 0));
        due(9_998, x.pan(1, 0, 0));
        due(1, work("rain 2;"));
        due(9_999, x.pan(0, 0, 0));
        due(9_999, x.pan(1, 0, 0));
        due(11, x.pan(2, 0, 0));
        due(1, work("rain 99;"));
        due(9_999, x.pan(1, 0, 0));
        due(110, x.pan(2, 0, 0));
        due(0, x.pan(2, 0, 1));
    }

    private static void rainOnHeaps() {
        says("each HEAP has N GRAMS less; of N or less it is gone, and its place has no BRINE by this rain",
            "size 4 1;heap 0 0 4;heap 1 0 5;heap 2 0 6;");
        due(1, work("rain 5;"));
        int[][] after = {{0, 0}, {0, 0}, {0, 1}, {5, 0}};
        for (int i = 0; i < 4; i++) {
            due(after[i][0], x.pan(i, 0, 0));
            due(after[i][1], x.pan(i, 0, 3));
        }
        due(1, x.told(11));
        due(0, x.told(8));
        due(1, work("rain 1;"));
        due(1, x.pan(0, 0, 0));
        due(0, x.pan(2, 0, 0));
        due(0, x.told(11));
        works("size 3 1;hour 2 10;heap 2 0 99;heap 1 0 100;");
        due(1, work("rain 99;"));
        due(0, x.pan(2, 0, 3));
        due(1, x.pan(1, 0, 3));
        due(3, x.shade(0, 0));
        works("size 4 1;hour 2 10;heap 3 0 51;");
        work("rain 1;");
        due(14, x.shade(0, 0));
        work("rain 1;");
        due(12, x.shade(0, 0));

        says("(never REFUSED)", "size 1 1;heap 0 0 1;");
        due(3, work("rain 1;rain 1;rain 1;"));
        due(0, x.told(10));
        works("size 1 1;pan 0 0 999 0;");
        due(11, work("again 9[let 0 0 999;];let 0 0 9;rain 99;"));
        due(0, x.told(10));
        due(9_999, x.told(5));
    }

    private static void hours() {
        says("each PAN that is not in SHADE has less BRINE by DRIES, 0 at least",
            "size 4 1;hour 0 0;pan 0 0 4 1;pan 1 0 5 1;pan 2 0 6 1;");
        law("5");
        due(14, x.loss(0));
        due(1, work("hour;"));
        due(0, x.pan(0, 0, 0));
        due(0, x.pan(1, 0, 0));
        due(1, x.pan(2, 0, 0));
        due(3, x.told(6));
        due(1, x.loss(0));

        says("DRIES: 0 at least, 99 at most", "size 2 1;hour 0 0;pan 0 0 100 0;pan 1 0 99 0;");
        law("0-5");
        due(0, x.dries(0, 0, 0));
        due(0, x.loss(0));
        due(1, work("hour;"));
        due(199, x.told(5));
        due(199, x.ahead(9, 0));
        law("100");
        due(99, x.dries(0, 0, 0));
        due(198, x.loss(0));
        due(1, work("hour;"));
        due(1, x.pan(0, 0, 0));
        due(0, x.pan(1, 0, 0));

        says("DRIES of the PAN at an HOUR, as all is now (in SHADE or not)",
            "size 3 1;hour 2 10;pan 0 0 50 7;heap 1 0 9;pan 2 0 30 6;");
        law("brine+salt");
        due(57, x.dries(0, 0, 0));
        due(0, x.dries(1, 0, 0));
        due(36, x.dries(2, 0, 0));
        due(30, x.loss(0));

        says("not in SHADE at the next HOUR", "size 3 1;hour 2 10;hour 6 10;pan 0 0 50 0;pan 2 0 50 0;heap 1 0 9;");
        law("5");
        work("hour;");
        due(50, x.pan(0, 0, 0));
        due(45, x.pan(2, 0, 0));
        work("hour;");
        due(45, x.pan(0, 0, 0));
        due(45, x.pan(2, 0, 0));
    }

    private static void hourByHour() {
        says("by DRIES (as all is ahead of it)", "size 2 1;hour 0 0;hour 0 0;pan 0 0 90 8;pan 1 0 40 0;");
        law("brine/2-salt+hour*5+day");
        work("hour;");
        due(53, x.pan(0, 0, 0));
        due(20, x.pan(1, 0, 0));
        work("hour;");
        due(53 - 26 + 8 - 5, x.pan(0, 0, 0));
        due(20 - 10 - 5, x.pan(1, 0, 0));
        work("hour;");
        due(30 - 15 + 8 - 1, x.pan(0, 0, 0));
        due(5 - 2 - 1, x.pan(1, 0, 0));

        says("the HOUR behind is next then, or, behind the last one, HOUR 0 of the next DAY");
        for (int many : new int[] {1, 2, 10}) {
            works(times(many, "hour 0 0;"));
            due(many - 1, work("again " + (many - 1) + "[hour;];"));
            due(0, x.told(3));
            due(many - 1, x.told(4));
            due(1, work("hour;"));
            due(1, x.told(3));
            due(0, x.told(4));
        }

        says("REFUSED, if there are no HOURS", "pan 0 0 9 0;");
        due(0, work("hour;hour;"));
        due(2, x.told(10));
        due(0, x.told(3));
        due(-1, x.told(4));
        due(9, x.told(5));
        due(9, x.ahead(500, 0));
        due(0, x.ahead(500, 2));
        due(-1, x.noon(0));
        due(-1, x.noon(1));
    }

    private static void lastDay() {
        says("or from DAY 400 on", "hour 0 0;pan 0 0 999 0;");
        law("day/399");
        due(196, work("again 49[hour;hour;hour;hour;];"));
        due(196, work("again 49[hour;hour;hour;hour;];"));
        due(7, work("again 7[hour;];"));
        due(399, x.told(3));
        due(999, x.told(5));
        due(1, work("hour;"));
        due(400, x.told(3));
        due(0, x.told(4));
        due(998, x.told(5));
        due(0, work("hour;hour;"));
        due(2, x.told(10));
        due(400, x.told(3));
        due(998, x.told(5));
        due(2, work("let 1 0 1;hour;rain 1;"));
        due(1, x.told(10));
        due(5, x.undo());
        works("hour 0 0;hour 0 0;");
        for (int i = 0; i < 4; i++) {
            due(196, work("again 49[hour;hour;hour;hour;];"));
        }
        due(15, work("again 15[hour;];"));
        due(399, x.told(3));
        due(1, x.told(4));
        due(1, work("hour;hour;"));
        due(1, x.told(10));
        due(400, x.told(3));
        due(0, x.told(4));
    }

    private static void beyondTheLastDay() {
        says("Asked, HOURS go by as by hour (beyond DAY 400, too)", "size 1 2;hour 0 0;pan 0 0 999 0;");
        law("(day-398)*most[0,least[1,day-399]]");
        work("again 49[hour;hour;hour;hour;];");
        work("again 49[hour;hour;hour;hour;];");
        due(8, work("again 8[hour;];"));
        due(400, x.told(3));
        // 2 at DAY 400, 3 at DAY 401 and so on
        due(2, x.dries(0, 0, 0));
        due(2, x.loss(0));
        due(0, x.noon(0));
        due(2, x.noon(1));
        due(999, x.ahead(0, 0));
        due(400, x.ahead(0, 2));
        due(997, x.ahead(1, 0));
        due(401, x.ahead(1, 2));
        due(994, x.ahead(2, 0));
        due(900, x.ahead(500, 2));
        // 2 + 3 + .. + 44 are 989, and 45 more are over 999
        due(44, x.drying(0, 0));
        due(44, x.first(1));
        due(994, x.summer(1, 2, 0, 0));
        due(994, x.span(1, 2, 2, 0, 1, 0, 0));
        book("0 0 997;");
        due(1, x.fits(1, 0));
        book("0 0 999;");
        due(0, x.fits(1, 0));
        due(0, work("hour;"));
        due(400, x.told(3));
    }

    // ---- terms: what is asked ----

    private static void dryingHours() {
        says("DRYING: the number of HOURS (0 to 500) behind which its BRINE is 0; NONE: more",
            "hour 0 0;pan 0 0 500 0;pan 1 0 501 0;pan 2 0 1 0;pan 3 0 2 0;");
        law("1");
        due(500, x.drying(0, 0));
        due(-1, x.drying(1, 0));
        due(1, x.drying(2, 0));
        due(2, x.drying(3, 0));
        due(0, x.drying(0, 1));
        due(2, x.first(0));
        due(1, x.first(1));
        works("hour 0 0;pan 1 0 501 0;pan 0 3 500 5;");
        law("1");
        due(30, x.first(0));
        due(500, x.first(1));
        works("hour 0 0;pan 1 0 501 0;pan 0 3 999 5;");
        law("1");
        due(-1, x.first(0));
        due(-1, x.first(1));
        law("2");
        due(1, x.first(0));
        due(251, x.first(1));
        law("0");
        due(-1, x.drying(1, 0));
    }

    private static void noDrying() {
        says("or a HEAP is there", "hour 0 0;heap 0 0 1;");
        due(-1, x.drying(0, 0));
        due(-1, x.first(0));
        works("heap 0 0 9;");
        due(-1, x.drying(0, 0));

        says("(without HOURS: 0, if it has no BRINE)", "pan 0 0 1 0;pan 1 0 0 9;");
        due(-1, x.drying(0, 0));
        due(0, x.drying(1, 0));
        due(0, x.drying(3, 3));
        due(-1, x.first(0));

        says("Of the PANS that have BRINE that with least DRYING, of alike ones the first (by y, then x)",
            "hour 0 0;pan 2 0 11 0;pan 3 0 10 0;pan 0 1 10 0;pan 1 0 0 5;");
        due(3, x.first(0));
        due(1, x.first(1));
        works("hour 0 0;pan 0 2 20 0;pan 3 1 20 0;pan 0 3 20 0;");
        due(13, x.first(0));
        due(2, x.first(1));
        works("");
        due(-1, x.first(0));
        due(-1, x.first(1));
    }

    private static void ahead() {
        says("In n HOURS (0 to 500): BRINE of all PANS, how many PANS are DRY, the DAY",
            "hour 0 0;hour 0 0;pan 0 0 999 0;");
        law("1");
        due(999, x.ahead(0, 0));
        due(998, x.ahead(1, 0));
        due(500, x.ahead(499, 0));
        due(499, x.ahead(500, 0));
        due(15, x.ahead(500, 1));
        due(0, x.ahead(1, 2));
        due(1, x.ahead(2, 2));
        due(249, x.ahead(499, 2));
        due(250, x.ahead(500, 2));
        law("2");
        due(1, x.ahead(499, 0));
        due(0, x.ahead(500, 0));
        due(15, x.ahead(499, 1));
        due(16, x.ahead(500, 1));
    }

    private static void noon() {
        says("The HOUR by which most BRINE would be lost, of alike ones the first",
            "hour 0 0;hour 0 8;hour 1 8;pan 0 0 500 0;");
        due(1, x.noon(0));
        due(12, x.noon(1));
        due(10, x.loss(0));
        due(12, x.loss(2));
        works("hour 0 8;pan 0 0 3 0;");
        due(0, x.noon(0));
        due(3, x.noon(1));
        works(times(9, "hour 0 0;") + "hour 0 4;pan 0 0 99 0;");
        due(9, x.noon(0));
        due(11, x.noon(1));
        law("0");
        due(0, x.noon(0));
        due(0, x.noon(1));
    }

    private static void sites() {
        says("SITE: of all places that are DRY and have no SALT", "size 4 1;pan 0 0 1 0;pan 1 0 0 1;heap 2 0 5;");
        due(3, x.site(1, 0));
        due(0, x.site(1, 1));
        due(-1, x.pair(1, 0));
        due(-1, x.pair(1, 1));
        due(-1, x.pair(1, 2));
        says("SITE: NONE", "size 3 1;pan 0 0 1 0;pan 1 0 0 1;heap 2 0 5;");
        due(-1, x.site(1, 0));
        due(-1, x.site(1, 1));
        due(-1, x.pair(1, 0));
        due(-1, x.pair(1, 2));
        says("without HOURS all are alike", "size 8 8;pan 0 0 1 0;heap 1 0 9;");
        due(2, x.site(999, 0));
        due(0, x.site(999, 1));
        due(2, x.pair(999, 0));
        due(3, x.pair(999, 1));
        due(0, x.pair(999, 2));
    }

    private static void sitesAlike() {
        says("of alike ones the first (by Y, then X)", "size 2 2;hour 0 0;");
        due(0, x.site(9, 0));
        due(1, x.site(9, 1));
        works("size 2 2;hour 0 0;pan 0 0 1 0;");
        due(1, x.site(9, 0));
        works("size 8 8;hour 0 0;pan 0 0 0 1;pan 1 0 0 1;pan 2 0 0 1;pan 3 0 0 1;pan 4 0 0 1;pan 5 0 0 1;pan 6 0 0 1;");
        due(7, x.site(9, 0));
        due(7, x.pair(9, 0));
        due(10, x.pair(9, 1));

        says("a HEAP of z GRAMS more would bring fewest PANS into SHADE that are not (its own place, too)",
            "size 8 1;hour 6 10;pan 7 0 1 0;");
        // from the west: HIGH 1 brings two each; HIGH 2 three, but of 6, 0 two
        int[][] heaps = {{1, 0, 2}, {49, 0, 2}, {50, 6, 2}, {99, 6, 2}, {999, 6, 2}};
        for (int[] h : heaps) {
            due(h[1], x.site(h[0], 0));
            due(h[2], x.site(h[0], 1));
        }
        works("size 3 1;hour 6 10;heap 0 0 9;");
        due(1, x.site(9, 0));
        due(1, x.site(9, 1));
        works("size 3 1;hour 6 10;heap 0 0 50;");
        due(1, x.site(9, 0));
        due(0, x.site(9, 1));
        says("HOUR by HOUR through a DAY", "size 2 1;hour 0 0;hour 0 0;");
        due(2, x.site(9, 1));
        due(4, x.pair(9, 2));
        works("size 1 1;" + TEN_HOURS);
        due(10, x.site(9, 1));
        work("hour;hour;");
        due(10, x.site(9, 1));
    }

    private static void pairsAndRelief() {
        says("PAIR: two such HEAPS, of fewest together (each PAN at each HOUR counted once)",
            "size 3 1;hour 6 10;pan 2 0 1 0;");
        due(0, x.pair(9, 0));
        due(1, x.pair(9, 1));
        due(3, x.pair(9, 2));
        works("size 3 1;hour 6 10;");
        due(1, x.pair(9, 0));
        due(2, x.pair(9, 1));
        due(2, x.pair(9, 2));
        works("size 2 1;hour 6 10;hour 2 10;");
        due(0, x.pair(9, 0));
        due(1, x.pair(9, 1));
        due(4, x.pair(9, 2));
        says("of alike ones the first (the first place by Y, then X, ahead of the second one)", "size 2 2;hour 0 0;");
        due(0, x.pair(9, 0));
        due(1, x.pair(9, 1));
        works("size 2 2;hour 0 0;pan 1 0 1 0;");
        due(0, x.pair(9, 0));
        due(10, x.pair(9, 1));
        // 0, 3 and 1, 2 are alike: two each; the others three
        works("size 4 1;hour 6 10;hour 6 0;heap 3 0 9;pan 0 0 1 0;");
        due(1, x.pair(9, 0));
        due(2, x.pair(9, 1));
        due(4, x.pair(9, 2));
        says("NONE all: there are no two", "size 2 1;");
        due(0, x.pair(9, 0));
        due(1, x.pair(9, 1));
        works("size 1 1;");
        due(-1, x.pair(9, 0));
        due(-1, x.pair(9, 1));
        due(-1, x.pair(9, 2));
    }

    private static void relief() {
        says("RELIEF: NONE: there are no HEAPS", "size 8 8;" + TEN_HOURS);
        due(-1, x.relief(0));
        due(-1, x.relief(1));
        works("size 8 8;" + TEN_HOURS + "heap 7 7 1;");
        due(77, x.relief(0));
        due(10, x.relief(1));
        works("size 8 8;heap 7 7 1;heap 6 7 9;");
        due(76, x.relief(0));
        due(0, x.relief(1));
        says("the HEAP without which most PANS would not be in SHADE that are; of alike ones the first",
            "size 4 1;hour 6 10;heap 1 0 9;heap 3 0 9;");
        due(1, x.relief(0));
        due(2, x.relief(1));
        // what lies in two shadows stays in shade without one of them
        works("size 4 1;hour 6 10;heap 0 0 60;heap 1 0 9;");
        due(0, x.relief(0));
        due(1, x.relief(1));
        works("size 2 2;hour 0 0;heap 1 1 9;heap 0 1 9;");
        due(10, x.relief(0));
        due(1, x.relief(1));
    }

    private static void ways() {
        says("WAY: the fewest steps north, east, south or west", "size 8 8;");
        due(14, x.way(0, 0, 7, 7));
        due(14, x.way(7, 7, 0, 0));
        due(7, x.way(7, 0, 0, 0));
        due(7, x.way(3, 7, 3, 0));
        due(1, x.way(3, 3, 3, 2));
        due(1, x.way(3, 3, 4, 3));
        due(0, x.way(7, 7, 7, 7));
        due(64, x.dryland(0, 0));
        due(64, x.dryland(7, 7));
        works("size 2 2;pan 1 0 1 0;pan 0 1 1 0;");
        due(-1, x.way(0, 0, 1, 1));
        due(1, x.dryland(0, 0));
        due(1, x.dryland(1, 1));
        // no step leads from the end of a row to the next row
        works("size 8 2;pan 6 0 1 0;pan 7 1 1 0;pan 1 1 1 0;pan 0 0 1 0;");
        due(-1, x.way(7, 0, 0, 1));
        due(-1, x.way(0, 1, 7, 0));
        due(1, x.dryland(7, 0));
        due(1, x.dryland(0, 1));
    }

    private static void waysOverDryPlaces() {
        says("over places without BRINE, both of these, too; NONE", "size 3 1;pan 1 0 1 0;");
        due(-1, x.way(0, 0, 2, 0));
        due(-1, x.way(0, 0, 1, 0));
        due(-1, x.way(1, 0, 0, 0));
        due(-1, x.way(1, 0, 1, 0));
        due(0, x.way(0, 0, 0, 0));
        due(0, x.dryland(1, 0));
        due(1, x.dryland(2, 0));
        works("size 4 1;pan 1 0 0 9;heap 2 0 9;");
        due(3, x.way(0, 0, 3, 0));
        due(4, x.dryland(2, 0));
        works("size 1 1;");
        due(0, x.way(0, 0, 0, 0));
        due(1, x.dryland(0, 0));
        // along every second row, there and back: the longest way there is
        StringBuilder walls = new StringBuilder("size 8 8;");
        for (int y = 1; y < 8; y += 2) {
            for (int u = 0; u < 7; u++) {
                walls.append("pan ").append(y % 4 == 1 ? u : u + 1).append(' ').append(y).append(" 1 0;");
            }
        }
        works(walls.toString());
        due(35, x.way(0, 0, 0, 7));
        due(36, x.dryland(0, 7));
    }

    private static void fitsAndLook() {
        says("FITS: places without BRINE, SALT, HEAP", "size 4 1;pan 0 0 1 0;pan 1 0 0 1;heap 2 0 5;");
        due(1, x.fits(1, 0));
        due(3, x.fits(1, 1));
        works("size 3 1;pan 0 0 1 0;pan 1 0 0 1;heap 2 0 5;");
        due(0, x.fits(1, 0));
        due(-1, x.fits(1, 1));
        works("size 8 8;");
        due(64, x.fits(999, 0));
        due(0, x.fits(999, 1));
    }

    private static void fitsByLines() {
        says("HOURS gone by, as many as there are in a DAY, all lines would be right",
            "size 2 1;hour 0 0;pan 1 0 50 0;");
        int[][] lines = {{41, 0}, {40, 1}, {39, 0}, {0, 0}, {9_999, 0}};
        for (int[] l : lines) {
            book("1 0 " + l[0] + ";");
            due(l[1], x.fits(9, 0));
            due(l[1] - 1, x.fits(9, 1));
        }
        book("1 0 40;0 0 0;");
        due(1, x.fits(9, 0));
        book("1 0 40;0 0 1;");
        due(0, x.fits(9, 0));
        works("size 2 1;" + times(10, "hour 0 0;") + "pan 1 0 500 0;");
        work("hour;");
        book("1 0 390;");
        due(1, x.fits(9, 0));
        // nothing is left, and no less than that
        works("size 3 1;hour 0 0;pan 1 0 1 0;pan 2 0 11 0;");
        book("1 0 0;2 0 1;");
        due(1, x.fits(9, 0));
        // from the next HOUR on, behind the last one HOUR 0 of the next DAY: 13 and 31 go
        works("size 2 1;hour 0 0;hour 0 0;pan 1 0 90 0;");
        work("hour;");
        law("(2-hour)*10+day*11+hour*3");
        book("1 0 " + (80 - 13 - 31) + ";");
        due(1, x.fits(9, 0));
        // HIGH tells: of 49 GRAMS the shadow lies on one place, of 50 on two
        works("size 3 1;hour 6 10;pan 2 0 50 0;");
        book("2 0 50;");
        due(1, x.fits(1, 0));
        due(1, x.fits(49, 0));
        due(1, x.fits(49, 1));
        due(2, x.fits(50, 0));
        due(2, x.fits(999, 0));
        due(0, x.fits(999, 1));
    }

    private static void look() {
        says("LOOK: NONE both: all PANS are in lines", "size 8 1;pan 7 0 9 0;");
        book(EIGHT.substring(0, 42));
        due(7, x.look(9, 0));
        book(EIGHT);
        due(-1, x.look(9, 0));
        due(-1, x.look(9, 1));
        works("size 2 1;heap 0 0 9;");
        due(0, x.look(9, 0));
        due(1, x.look(9, 1));
        works("size 1 1;");
        due(0, x.look(9, 0));
        due(1, x.look(9, 1));
        book("0 0 0;");
        due(-1, x.look(9, 0));
        due(-1, x.look(9, 1));

        says("fewest of FITS are left at the worst (0, if nothing FITS), of these the first", "size 3 2;");
        due(0, x.look(9, 0));
        due(6, x.look(9, 1));
        book("0 0 1;");
        due(1, x.look(9, 0));
        due(0, x.look(9, 1));
        book("0 0 0;");
        due(1, x.look(9, 0));
        due(6, x.look(9, 1));
        works("size 3 1;hour 6 10;pan 2 0 50 0;");
        due(2, x.look(9, 0));
        due(1, x.look(9, 1));
        due(2, x.look(49, 0));
        due(0, x.look(50, 0));
        due(2, x.look(50, 1));
    }

    private static void water() {
        says("WATER: no more than that each, no more than a bound, the greatest by which no more than n are given",
            "size 4 1;pan 0 0 10 0;pan 1 0 40 0;pan 2 0 100 0;");
        // pans told, n, and what each of the four gets
        int[][] shares = {
            {7, 0, 0, 0, 0, 0}, {7, 2, 0, 0, 0, 0}, {7, 3, 1, 1, 1, 0}, {7, 5, 1, 1, 1, 0}, {7, 6, 2, 2, 2, 0},
            {7, 29, 9, 9, 9, 0}, {7, 30, 10, 10, 10, 0}, {7, 31, 10, 10, 10, 0}, {7, 32, 10, 11, 11, 0},
            {7, 89, 10, 39, 39, 0}, {7, 90, 10, 40, 40, 0}, {7, 91, 10, 40, 41, 0}, {7, 149, 10, 40, 99, 0},
            {7, 150, 10, 40, 100, 0}, {7, 151, 10, 40, 100, 0}, {7, 99_999, 10, 40, 100, 0}, {15, 29, 9, 9, 9, 0},
            {15, 99_999, 10, 40, 100, 0}, {8, 99_999, 0, 0, 0, 0}, {4, 77, 0, 0, 77, 0}, {6, 9, 0, 4, 4, 0},
            {0, 99_999, 0, 0, 0, 0},
        };
        for (int[] s : shares) {
            for (int u = 0; u < 4; u++) {
                due(s[2 + u], x.water(u, 0, s[0], s[1]));
            }
        }
    }

    private static void waterMost() {
        says("(all, if they are no more)", "size 8 1;");
        work("again 60[rain 99;];again 41[rain 99;];");
        due(9_999, x.pan(7, 0, 0));
        due(9_999, x.water(7, 0, 255, 79_992));
        due(9_998, x.water(0, 0, 255, 79_991));
        due(9_999, x.water(7, 0, 255, 99_999));
        due(9_999, x.water(7, 0, 128, 9_999));
        due(9_998, x.water(7, 0, 128, 9_998));
        due(1, x.water(7, 0, 255, 8));
        due(0, x.water(7, 0, 255, 7));

        says("IllegalArgumentException: bits beyond the row");
        limits(BAD, EdgeTest::smallest, 0, 1, (s, v) -> s.water(0, 0, v, 1));
        limits(BAD, EdgeTest::rich, 0, 7, (s, v) -> s.water(0, 0, v, 1));
        limits(BAD, EdgeTest::withoutHours, 0, 15, (s, v) -> s.water(0, 0, v, 1));
        limits(BAD, EdgeTest::largest, 0, 255, (s, v) -> s.water(0, 0, v, 1));
        refuses(BAD, EdgeTest::rich, 1 << 31 | 1, (s, v) -> s.water(0, 0, v, 1));
    }

    private static void summers() {
        says("let X Y of 1 more than what is DRAWN then by 99, is it below Q; else cart X Y",
            "size 8 8;heap 0 4 9;heap 6 6 5;");
        // By the seed 1 are drawn 16838, 5758, 10113, 17515: x 6, y 6, 1 by 16, 91 by 99;
        // by the seed 0 are drawn 0, 21468, 9988: x 0, y 4, 4 by 16.
        due(0, x.summer(1, 1, 2, 0));
        due(0, x.summer(1, 1, 2, 2));
        due(5, x.summer(1, 1, 1, 2));
        due(5, x.summer(1, 1, 0, 2));
        due(9, x.summer(0, 1, 4, 2));
        due(0, x.summer(0, 1, 5, 2));
        works("size 8 8;");
        due(92, x.summer(1, 1, 2, 0));
        due(11, x.summer(1, 1, 2, 1));
        due(63, x.summer(1, 1, 2, 3));
        due(0, x.summer(1, 1, 1, 0));
        due(64, x.summer(1, 1, 1, 3));
        due(92, x.summer(1, 1, 16, 0));
    }

    private static void drawn() {
        says("becomes itself times 1,103,515,245, and 12,345 (it wraps); its bits 16 to 30", "size 8 8;heap 1 1 7;");
        // By the seed -1 are drawn 15929, 4409, 9862, 26718, 8713, 28226, 9080, 32063: x 1, y 1, 6 by 16, 87 by 99;
        // then x 1, y 2, 8 by 16, 86 by 99. The highest bit of a seed is none of those that are drawn.
        for (int seed : new int[] {-1, Integer.MAX_VALUE}) {
            due(7, x.summer(seed, 1, 6, 2));
            due(0, x.summer(seed, 1, 7, 2));
        }
        works("size 8 8;");
        for (int seed : new int[] {-1, Integer.MAX_VALUE}) {
            due(0, x.summer(seed, 1, 6, 0));
            due(88, x.summer(seed, 1, 7, 0));
            due(88 + 87, x.summer(seed, 2, 9, 0));
            due(62, x.summer(seed, 2, 9, 3));
        }

        // by the seed 0 cart 0 4 (4 by 16), then 22117 and 3498: cart 5 2; a let takes one number more
        works("size 8 8;heap 5 2 7;heap 2 7 5;");
        due(7, x.summer(0, 2, 0, 2));
        due(0, x.summer(0, 1, 0, 2));
        works("size 8 8;");
        due(41, x.summer(0, 1, 5, 0));
        due(82, x.summer(0, 2, 16, 0));
        works("size 8 8;heap 2 7 5;heap 0 4 9;");
        due(0, x.summer(0, 2, 16, 0));
        due(0, x.summer(0, 2, 14, 2));
        due(5, x.summer(0, 2, 13, 2));

        says("(each, if it can be done)", "size 1 1;heap 0 0 9;");
        due(0, x.summer(0, 96, 16, 0));
        due(0, x.summer(0, 96, 16, 2));
        due(9, x.summer(0, 96, 0, 2));
        works("size 1 1;pan 0 0 999 0;");
        work("again 9[let 0 0 999;];");
        // 41 are drawn, more than 9,999 has room for
        due(9_990, x.summer(0, 1, 16, 0));
        due(9_990, x.summer(0, 1, 0, 0));
    }

    private static void summerHours() {
        says("then hour (if there are any)", "size 1 1;hour 0 0;pan 0 0 999 0;");
        due(989, x.summer(0, 1, 0, 0));
        due(39, x.summer(0, 96, 0, 0));
        law("99");
        due(1, x.summer(0, 96, 0, 3));
        due(999 + 41 - 99, x.summer(0, 1, 16, 0));
        works("size 1 1;pan 0 0 999 0;");
        due(999, x.summer(0, 96, 0, 0));
    }

    private static void span() {
        says("Of so many SEEDS (1 to 10; seed, seed and 1, ..): least BRINE, the most, by how many the PAN is DRY",
            "size 1 1;");
        // the first let brings by the seeds 0, 1, 2: 41, 92, 45 (by 16: 4, 1, 15)
        due(41, x.span(0, 1, 1, 16, 0, 0, 0));
        due(41, x.span(0, 1, 1, 16, 1, 0, 0));
        due(92, x.span(0, 2, 1, 16, 1, 0, 0));
        due(41, x.span(0, 3, 1, 16, 0, 0, 0));
        due(45, x.span(1, 2, 1, 16, 0, 0, 0));
        due(92, x.span(1, 2, 1, 16, 1, 0, 0));
        due(0, x.span(0, 3, 1, 16, 2, 0, 0));
        due(1, x.span(0, 3, 1, 15, 2, 0, 0));
        due(2, x.span(0, 3, 1, 4, 2, 0, 0));
        due(3, x.span(0, 3, 1, 1, 2, 0, 0));
        due(10, x.span(0, 10, 96, 0, 2, 0, 0));
        due(0, x.span(0, 10, 1, 0, 1, 0, 0));
        // the seed behind the greatest is the least one
        due(41, x.span(Integer.MAX_VALUE, 2, 1, 16, 0, 0, 0));
        due(88, x.span(Integer.MAX_VALUE, 2, 1, 16, 1, 0, 0));
        due(88, x.span(-1, 2, 1, 16, 1, 0, 0));
    }

    private static void rowsAndLines() {
        says("(bits, by x)", "size 8 8;heap 0 0 1;heap 7 0 1;heap 7 7 1;heap 0 7 1;");
        due(129, x.mounds(0));
        due(129, x.mounds(7));
        due(0, x.mounds(1));
        says("BRINE of a row k (what 0), of a column k (1), SALT of a row (2), of a column (3)",
            "size 8 8;pan 0 0 1 2;pan 7 0 4 8;pan 0 7 16 32;pan 7 7 64 128;");
        int[][] lines = {{0, 5, 17, 10, 34}, {7, 80, 68, 160, 136}, {1, 0, 0, 0, 0}, {6, 0, 0, 0, 0}};
        for (int[] l : lines) {
            for (int what = 0; what < 4; what++) {
                due(l[1 + what], x.line(l[0], what));
            }
        }
    }

    // ---- the tape, works that are there, images ----

    private static void feedAndTexts() {
        says("Twenty bytes come on the TAPE, of each number the highest first");
        due(20, x.feed(0x73697a65, 0x20332032, 0x3b686f75, 0x72203720, 0x34303b20));
        due(1, x.works(20));
        due(3, x.told(0));
        due(2, x.told(1));
        due(40, x.hour(0, 1));
        x.feed(0x37ffffff, -1, 0, 0, 0);
        due(-9, x.law(20));
        due(1, x.fault());

        says("NONE, doing nothing, if there would be more than 600");
        for (int bytes = 20; bytes <= 600; bytes += 20) {
            due(bytes, x.feed(0x20202020, 0x20202020, 0x20202020, 0x20202020, 0x20202020));
            due(bytes, x.count(1));
        }
        due(-1, x.feed(0x21212121, 0x21212121, 0x21212121, 0x21212121, 0x21212121));
        due(600, x.count(1));
        due(-1, x.feed(0, 0, 0, 0, 0));
        due(0, x.works(600));
        due(-1, x.fault());
        due(0, x.count(1));
        due(20, x.feed(0, 0, 0, 0, 0));
    }

    private static void textLengths() {
        says("n is not 0 to the TAPE's bytes (it stays)");
        limits(BAD, EdgeTest::rich, 0, 20, (s, v) -> s.works(v));
        limits(BAD, EdgeTest::rich, 0, 20, (s, v) -> s.law(v));
        limits(BAD, EdgeTest::rich, 0, 20, (s, v) -> s.work(v));
        limits(BAD, EdgeTest::rich, 0, 20, (s, v) -> s.book(v));
        limits(BAD, SunnyPans::new, 0, 0, (s, v) -> s.works(v));
        limits(BAD, SunnyPans::new, 0, 0, (s, v) -> s.law(v));
        limits(BAD, SunnyPans::new, 0, 0, (s, v) -> s.work(v));
        limits(BAD, SunnyPans::new, 0, 0, (s, v) -> s.book(v));
        limits(BAD, () -> fed(600), 0, 600, (s, v) -> s.works(v));
        limits(BAD, () -> fed(600), 0, 150, (s, v) -> s.law(v));
        limits(BAD, () -> fed(600), 0, 150, (s, v) -> s.work(v));
        limits(BAD, () -> fed(600), 0, 60, (s, v) -> s.book(v));
        for (int v : new int[] {150, 151, 60, 61}) {
            refuses(BAD, EdgeTest::rich, v, (s, n) -> s.law(n));
            refuses(BAD, EdgeTest::rich, v, (s, n) -> s.work(n));
            refuses(BAD, EdgeTest::rich, v, (s, n) -> s.book(n));
        }
    }

    private static void worksForgets() {
        says("works: (DAY 0; no LAW, BOOK, IMAGES, nothing to undo)");
        x = richWithoutTape();
        // the line of its book holds with a heap of 10 grams at 2, 0 or at 0, 1; with one of 60 at 0, 1 alone
        due(2, x.fits(10, 0));
        due(10, x.fits(60, 1));
        work("cart 1 1;");
        due(120, x.told(8));
        put(x, "rain 7;");
        due(0, x.works(0));
        int[] want = {4, 4, 0, 0, -1, 0, 0, 0, 0, 0, 0, 0, 0};
        for (int what = 0; what <= 12; what++) {
            due(want[what], x.told(what));
        }
        for (int what = 0; what <= 2; what++) {
            due(0, x.count(what));
        }
        due(-1, x.undo());
        due(-1, x.restore());
        due(20, x.would(0, 0, 40, 0, 0, 0, 0, 0));

        says("The place of the FAULT of the latest text; NONE without");
        due(-1, x.fault());
        works("x");
        due(0, x.fault());
        law("1");
        due(-1, x.fault());
        law("1+");
        due(2, x.fault());
        work("");
        due(-1, x.fault());
        work("rain 1");
        due(6, x.fault());
        book("");
        due(-1, x.fault());
        book("0 0");
        due(3, x.fault());
        works("");
        due(-1, x.fault());
    }

    private static SunnyPans withWorks(int many) {
        SunnyPans s = new SunnyPans();
        read(s, "works", "size 2 1;hour 0 0;pan 0 0 900 0;");
        for (int i = 0; i < many; i++) {
            read(s, "work", "rain 1;cart 0 0;");
        }
        return s;
    }

    private static void sixteenWorks() {
        says("-20: 16 WORKS are there that were not undone");
        x = withWorks(15);
        due(1, work("rain 1;cart 0 0;"));
        due(16, x.count(2));
        due(-20, work("rain 1;"));
        due(16, x.count(2));
        due(916, x.pan(0, 0, 0));
        due(1, x.told(10));
        due(15, x.undo());
        due(1, work("rain 1;"));
        due(-20, work(""));
        due(-20, x.work(0));
        due(0, works(""));
        due(0, work(""));

        says("(of no STEPS, too)");
        for (int i = 1; i <= 16; i++) {
            due(0, work(""));
            due(i, x.count(2));
        }
        due(-20, work(""));

        says("(none is): a FAULT is no WORK that was done");
        x = withWorks(15);
        due(-9, work("rain 1;x"));
        due(15, x.count(2));
        due(1, work("rain 1;"));
    }

    private static void minus20() {
        says("-20 behind the exception");
        Make full = () -> withTape(withWorks(16));
        refuses(BAD, full, -1, (s, v) -> s.work(v));
        refuses(BAD, full, 21, (s, v) -> s.work(v));
        refuses(BAD, () -> fedUp(withWorks(16)), 151, (s, v) -> s.work(v));

        says("-20 ahead of the FAULT (nothing is read, there is no FAULT, the TAPE is empty then)");
        x = withWorks(16);
        law("1+");
        due(2, x.fault());
        put(x, "hours");
        due(-20, x.work(5));
        due(-1, x.fault());
        due(0, x.count(1));
        leaves(() -> withWorks(16), x);
        x = withWorks(16);
        due(1, law("1"));
        due(1, book("0 0 1;"));
        due(-20, work(""));
    }

    private static SunnyPans withTape(SunnyPans s) {
        put(s, "rain 7;");
        return s;
    }

    private static SunnyPans fedUp(SunnyPans s) {
        put(s, times(600, " "));
        return s;
    }

    private static void undone() {
        says("how many are left; -1: there is none");
        x = withWorks(16);
        for (int left = 15; left >= 0; left--) {
            due(left, x.undo());
            due(left, x.count(2));
            due(900 + left, x.pan(0, 0, 0));
            due(0, x.told(10));
        }
        due(-1, x.undo());
        leaves(() -> withWorks(0), x);
    }

    private static void refusedByTheLatest() {
        says("told 10: 0 ahead of any, behind works() without a FAULT, undo(), restore(); a FAULT, -20, -1 leave it");
        due(0, x.told(10));
        work("cart 0 0;cart 0 0;");
        due(2, x.told(10));
        works("x");
        due(2, x.told(10));
        work("x");
        law("x");
        book("x");
        due(2, x.told(10));
        due(1, law("1"));
        due(0, book(""));
        due(-1, x.restore());
        due(2, x.told(10));
        due(1, x.image());
        due(2, x.told(10));
        due(0, x.restore());
        due(0, x.told(10));
        work("cart 0 0;");
        due(1, x.undo());
        due(0, x.told(10));
        work("cart 0 0;");
        works("");
        due(0, x.told(10));
        work("cart 0 0;");
        due(0, x.undo());
        due(0, work("cart 0 0;"));
        due(0, x.undo());
        due(-1, x.undo());
        x = withWorks(1);
        due(1, x.told(10));
        due(0, x.undo());
        work("cart 0 0;cart 0 0;cart 0 0;");
        due(3, x.told(10));
        due(0, x.undo());
        due(-1, x.undo());
        x = withWorks(16);
        due(-20, work(""));
        due(1, x.told(10));
    }

    private static void images() {
        says("An IMAGE: how many there are; -1: there are 3", "size 1 1;");
        for (int i = 1; i <= 3; i++) {
            due(i, x.image());
            due(i, x.count(0));
            work("rain 1;cart 0 0;");
        }
        due(-1, x.image());
        due(3, x.count(0));
        due(1, x.told(10));
        due(3, x.pan(0, 0, 0));
        due(3, x.count(2));

        says("All that is as in the latest IMAGE, which is gone: how many are left; -1: there is none");
        SunnyPans kept = new SunnyPans();
        read(kept, "works", "size 1 1;");
        for (int i = 0; i < 3; i++) {
            due(i + 1, kept.image());
            read(kept, "work", "rain 1;cart 0 0;");
        }
        for (int left = 2; left >= 0; left--) {
            due(left, kept.restore());
            due(left, kept.count(0));
            due(left, kept.pan(0, 0, 0));
            due(left, kept.count(2));
            due(0, kept.told(10));
        }
        due(-1, kept.restore());
        due(0, kept.pan(0, 0, 0));
        due(-1, kept.undo());
    }

    private static void imagesOfWorks() {
        says("and of WORKS that can be undone");
        x = withWorks(16);
        due(1, x.image());
        while (x.undo() > 0) {
            due(0, x.told(10));
        }
        due(900, x.pan(0, 0, 0));
        work("rain 50;");
        work("rain 60;");
        work("rain 70;");
        due(0, x.restore());
        due(916, x.pan(0, 0, 0));
        due(16, x.count(2));
        due(-20, work(""));
        for (int left = 15; left >= 0; left--) {
            due(left, x.undo());
            due(900 + left, x.pan(0, 0, 0));
        }
        due(-1, x.undo());

        says("of all that WORK changes", "size 4 1;hour 2 10;hour 2 0;pan 0 0 500 5;pan 1 0 0 30;heap 3 0 60;");
        work("hour;");
        due(1, x.image());
        due(4, work("rake 1 0 3 0;cart 3 0;hour;let 3 0 80;"));
        due(0, x.restore());
        int[] want = {4, 1, 2, 0, 1, 488, 35, 60, 0, 0, 0, 1, 1};
        for (int what = 0; what <= 12; what++) {
            due(want[what], x.told(what));
        }
        due(14, x.shade(0, 0));
        due(0, x.pan(3, 0, 1));
    }

    private static void noImageKeepsIt() {
        says("(No IMAGE keeps it.)");
        due(THREW_BAD, answer(x, -1, (s, v) -> s.told(v)));
        due(1, x.image());
        due(THREW_BAD, answer(x, 13, (s, v) -> s.told(v)));
        due(THREW_MISSING, answer(x, -1, (s, v) -> s.mounds(v)));
        due(0, x.restore());
        due(1, x.status(0));
        due(2, x.status(1));
        works("");
        works("x");
        work("");
        x.undo();
        due(1, x.status(0));
        due(2, x.status(1));
    }

    private static void counts() {
        says("status: NONE for others; count: NONE for others");
        for (int what : new int[] {-1, 2, 3, 99, Integer.MAX_VALUE, Integer.MIN_VALUE}) {
            due(-1, rich().status(what));
        }
        for (int what : new int[] {-1, 3, 4, 99, Integer.MAX_VALUE, Integer.MIN_VALUE}) {
            due(-1, rich().count(what));
        }
        SunnyPans s = rich();
        due(1, s.count(0));
        due(20, s.count(1));
        due(2, s.count(2));
        due(0, s.status(0));
        due(0, s.status(1));
        s.status(2);
        s.count(3);
        due(0, s.status(0) + s.status(1));
        leaves(EdgeTest::rich, s);
    }

    // ---- what each call is asked with ----

    private static void placesAndHours() {
        says("NoSuchElementException: no such place");
        Ask[] byX = {(s, v) -> s.pan(v, 0, 0), (s, v) -> s.dries(v, 0, 0), (s, v) -> s.drying(v, 0),
            (s, v) -> s.way(v, 0, 0, 0), (s, v) -> s.way(0, 0, v, 0), (s, v) -> s.water(v, 0, 1, 1),
            (s, v) -> s.cast(v, 0, 0), (s, v) -> s.ready(v, 0, 0), (s, v) -> s.dryland(v, 0),
            (s, v) -> s.nearest(v, 0), (s, v) -> s.poured(v, 0, 1), (s, v) -> s.span(1, 1, 1, 1, 0, v, 0),
            (s, v) -> s.span(1, 1, 1, 1, 1, v, 0), (s, v) -> s.span(1, 1, 1, 1, 2, v, 0)};
        Ask[] byY = {(s, v) -> s.pan(0, v, 0), (s, v) -> s.dries(0, v, 0), (s, v) -> s.drying(0, v),
            (s, v) -> s.way(0, v, 0, 0), (s, v) -> s.way(0, 0, 0, v), (s, v) -> s.water(0, v, 1, 1),
            (s, v) -> s.cast(0, v, 0), (s, v) -> s.ready(0, v, 0), (s, v) -> s.dryland(0, v),
            (s, v) -> s.nearest(0, v), (s, v) -> s.poured(0, v, 1), (s, v) -> s.span(1, 1, 1, 1, 0, 0, v),
            (s, v) -> s.span(1, 1, 1, 1, 1, 0, v), (s, v) -> s.span(1, 1, 1, 1, 2, 0, v),
            (s, v) -> s.shade(0, v), (s, v) -> s.ready(0, 0, v), (s, v) -> s.mounds(v)};
        Ask[] byHour = {(s, v) -> s.hour(v, 0), (s, v) -> s.shade(v, 0), (s, v) -> s.dries(0, 0, v),
            (s, v) -> s.cast(0, 0, v), (s, v) -> s.loss(v)};
        for (Ask ask : byX) {
            limits(MISSING, EdgeTest::rich, 0, 2, ask);
            limits(MISSING, EdgeTest::largest, 0, 7, ask);
            limits(MISSING, EdgeTest::smallest, 0, 0, ask);
        }
        says("NoSuchElementException: no such place, row");
        for (Ask ask : byY) {
            limits(MISSING, EdgeTest::rich, 0, 1, ask);
            limits(MISSING, EdgeTest::largest, 0, 7, ask);
            limits(MISSING, EdgeTest::smallest, 0, 0, ask);
        }
        says("NoSuchElementException: no such HOUR");
        for (Ask ask : byHour) {
            limits(MISSING, EdgeTest::rich, 0, 2, ask);
            limits(MISSING, EdgeTest::largest, 0, 9, ask);
            limits(MISSING, EdgeTest::smallest, 0, 0, ask);
            refuses(MISSING, EdgeTest::withoutHours, 0, ask);
            refuses(MISSING, EdgeTest::withoutHours, -1, ask);
        }
    }

    private static void whats() {
        says("IllegalArgumentException: another what (so below)");
        Ask[] to1 = {(s, v) -> s.first(v), (s, v) -> s.site(9, v), (s, v) -> s.relief(v), (s, v) -> s.fits(9, v),
            (s, v) -> s.look(9, v), (s, v) -> s.strongest(v), (s, v) -> s.greatest(v), (s, v) -> s.noon(v)};
        Ask[] to2 = {(s, v) -> s.hour(0, v), (s, v) -> s.ahead(1, v), (s, v) -> s.pair(9, v),
            (s, v) -> s.span(1, 1, 1, 1, v, 0, 0)};
        Ask[] to3 = {(s, v) -> s.line(0, v), (s, v) -> s.summer(1, 1, 1, v)};
        for (Ask ask : to1) {
            limits(BAD, EdgeTest::rich, 0, 1, ask);
        }
        for (Ask ask : to2) {
            limits(BAD, EdgeTest::rich, 0, 2, ask);
        }
        for (Ask ask : to3) {
            limits(BAD, EdgeTest::rich, 0, 3, ask);
        }
        limits(BAD, EdgeTest::rich, 0, 6, (s, v) -> s.pan(0, 0, v));
        limits(BAD, EdgeTest::rich, 0, 12, (s, v) -> s.told(v));
        says("another what, though there is nothing that could be answered");
        for (Ask ask : to1) {
            refuses(BAD, SunnyPans::new, 2, ask);
            refuses(BAD, SunnyPans::new, -1, ask);
        }
        refuses(BAD, EdgeTest::withoutHours, 3, (s, v) -> s.ahead(1, v));
        refuses(BAD, EdgeTest::smallest, 3, (s, v) -> s.pair(9, v));
        says("line: another what, or no such row or column");
        limits(BAD, EdgeTest::rich, 0, 1, (s, v) -> s.line(v, 0));
        limits(BAD, EdgeTest::rich, 0, 2, (s, v) -> s.line(v, 1));
        limits(BAD, EdgeTest::rich, 0, 1, (s, v) -> s.line(v, 2));
        limits(BAD, EdgeTest::rich, 0, 2, (s, v) -> s.line(v, 3));
        for (int what = 0; what < 4; what++) {
            int asked = what;
            limits(BAD, EdgeTest::largest, 0, 7, (s, v) -> s.line(v, asked));
            limits(BAD, EdgeTest::smallest, 0, 0, (s, v) -> s.line(v, asked));
        }
    }

    private static void amounts() {
        says("z (1 to 999)");
        Ask[] byZ = {(s, v) -> s.site(v, 0), (s, v) -> s.pair(v, 0), (s, v) -> s.fits(v, 0), (s, v) -> s.look(v, 0)};
        for (Ask ask : byZ) {
            limits(BAD, EdgeTest::rich, 1, 999, ask);
            limits(BAD, EdgeTest::smallest, 1, 999, ask);
        }
        says("poured: n (1 to 999)");
        limits(BAD, EdgeTest::rich, 1, 999, (s, v) -> s.poured(0, 0, v));
        // refused would be by the heap, too, but n is looked at first
        limits(BAD, EdgeTest::rich, 1, 999, (s, v) -> s.poured(1, 1, v));
        says("ahead: n HOURS (0 to 500)");
        limits(BAD, EdgeTest::rich, 0, 500, (s, v) -> s.ahead(v, 0));
        limits(BAD, EdgeTest::withoutHours, 0, 500, (s, v) -> s.ahead(v, 2));
        says("water: n (0 to 99,999)");
        limits(BAD, EdgeTest::rich, 0, 99_999, (s, v) -> s.water(0, 0, 1, v));
        limits(BAD, EdgeTest::rich, 0, 99_999, (s, v) -> s.water(0, 0, 0, v));
        says("summer: so many HOURS (1 to 96), Q (0 to 16)");
        limits(BAD, EdgeTest::rich, 1, 96, (s, v) -> s.summer(1, v, 8, 0));
        limits(BAD, EdgeTest::withoutHours, 1, 96, (s, v) -> s.summer(1, v, 8, 3));
        limits(BAD, EdgeTest::rich, 0, 16, (s, v) -> s.summer(1, 1, v, 0));
        says("span: so many SEEDS (1 to 10), HOURS (1 to 96), Q (0 to 16)");
        limits(BAD, EdgeTest::rich, 1, 10, (s, v) -> s.span(1, v, 1, 8, 0, 0, 0));
        limits(BAD, EdgeTest::rich, 1, 96, (s, v) -> s.span(1, 1, v, 8, 0, 0, 0));
        limits(BAD, EdgeTest::rich, 0, 16, (s, v) -> s.span(1, 1, 1, v, 0, 0, 0));
    }

    private static void would() {
        says("would: brine, salt (0 to 9,999 both), reach (0 to 40), side (0 to 7), hour (0 to 9), day (0 to 400)");
        law("brine-999*10+(salt-999*10)+reach-40+(side-7)+(hour-9)+(day-400)+col-7+row");
        due(25, x.would(9_999, 9_999, 40, 7, 9, 400, 7, 7));
        due(24, x.would(9_998, 9_999, 40, 7, 9, 400, 7, 7));
        due(24, x.would(9_999, 9_998, 40, 7, 9, 400, 7, 7));
        due(24, x.would(9_999, 9_999, 39, 7, 9, 400, 7, 7));
        due(24, x.would(9_999, 9_999, 40, 6, 9, 400, 7, 7));
        due(24, x.would(9_999, 9_999, 40, 7, 8, 400, 7, 7));
        due(24, x.would(9_999, 9_999, 40, 7, 9, 399, 7, 7));
        due(24, x.would(9_999, 9_999, 40, 7, 9, 400, 6, 7));
        due(24, x.would(9_999, 9_999, 40, 7, 9, 400, 7, 6));
        law("brine+salt+reach+side+hour+day+col+row");
        due(0, x.would(0, 0, 0, 0, 0, 0, 0, 0));
        Make[] makes = {EdgeTest::rich, EdgeTest::withoutHours};
        for (Make make : makes) {
            limits(BAD, make, 0, 9_999, (s, v) -> s.would(v, 0, 0, 0, 0, 0, 0, 0));
            limits(BAD, make, 0, 9_999, (s, v) -> s.would(0, v, 0, 0, 0, 0, 0, 0));
            limits(BAD, make, 0, 40, (s, v) -> s.would(0, 0, v, 0, 0, 0, 0, 0));
            limits(BAD, make, 0, 7, (s, v) -> s.would(0, 0, 0, v, 0, 0, 0, 0));
            limits(BAD, make, 0, 9, (s, v) -> s.would(0, 0, 0, 0, v, 0, 0, 0));
            limits(BAD, make, 0, 400, (s, v) -> s.would(0, 0, 0, 0, 0, v, 0, 0));
            limits(BAD, make, 0, 7, (s, v) -> s.would(0, 0, 0, 0, 0, 0, v, 0));
            limits(BAD, make, 0, 7, (s, v) -> s.would(0, 0, 0, 0, 0, 0, 0, v));
        }
    }

    /** Any seed there is may be asked with; what the greatest arguments answer. */
    private static void largestAndSmallest() {
        says("A SUMMER by a SEED");
        for (int seed : new int[] {Integer.MIN_VALUE, -1, 0, 1, Integer.MAX_VALUE}) {
            SunnyPans s = largest();
            due(s.summer(seed, 96, 16, 0), s.span(seed, 1, 96, 16, 0, 7, 7));
            due(s.summer(seed, 96, 16, 0), s.span(seed, 1, 96, 16, 1, 7, 7));
        }
        says("1 to 10 SEEDS", "size 2 2;hour 0 0;");
        int least = Integer.MAX_VALUE;
        int most = 0;
        for (int seed = 5; seed < 15; seed++) {
            int brine = x.summer(seed, 30, 9, 0);
            least = Math.min(least, brine);
            most = Math.max(most, brine);
        }
        due(least, x.span(5, 10, 30, 9, 0, 0, 0));
        due(most, x.span(5, 10, 30, 9, 1, 1, 1));
        says("told 0 to 12 of the largest");
        x = largest();
        int[] want = {8, 8, 10, 0, 0, 1_004, 999, 999, 0, 0, 0, 1, 0};
        for (int what = 0; what <= 12; what++) {
            due(want[what], x.told(what));
        }
        due(61, x.look(1, 1));
        due(20, x.pan(0, 0, 4));
        due(8, x.hour(9, 2));
        due(128, x.shade(9, 7));
        due(7, x.cast(0, 0, 9));
    }

    private static void missingAheadOfBad() {
        says("NoSuchElementException (so below, ahead of others)");
        for (int v : new int[] {-1, 3, Integer.MIN_VALUE, Integer.MAX_VALUE}) {
            refuses(MISSING, EdgeTest::rich, v, (s, u) -> s.pan(u, 0, 7));
            refuses(MISSING, EdgeTest::rich, v, (s, u) -> s.pan(0, u, -1));
            refuses(MISSING, EdgeTest::rich, v, (s, u) -> s.hour(u, 3));
            refuses(MISSING, EdgeTest::rich, v, (s, u) -> s.hour(u, -1));
            refuses(MISSING, EdgeTest::rich, v, (s, u) -> s.water(u, 0, 8, 1));
            refuses(MISSING, EdgeTest::rich, v, (s, u) -> s.water(0, u, 0, -1));
            refuses(MISSING, EdgeTest::rich, v, (s, u) -> s.poured(u, 0, 0));
            refuses(MISSING, EdgeTest::rich, v, (s, u) -> s.poured(0, u, 1_000));
            refuses(MISSING, EdgeTest::rich, v, (s, u) -> s.span(1, 0, 1, 1, 0, u, 0));
            refuses(MISSING, EdgeTest::rich, v, (s, u) -> s.span(1, 1, 97, 1, 0, 0, u));
            refuses(MISSING, EdgeTest::rich, v, (s, u) -> s.span(1, 1, 1, 17, 0, u, 0));
            refuses(MISSING, EdgeTest::rich, v, (s, u) -> s.span(1, 1, 1, 1, 3, 0, u));
        }
    }

    private static void askedNothingStaysChanged() {
        says("Asked, nothing stays changed");
        Ask[] all = {(s, v) -> s.fault(), (s, v) -> s.told(12), (s, v) -> s.pan(0, 0, 6), (s, v) -> s.hour(0, 2),
            (s, v) -> s.shade(0, 0), (s, v) -> s.dries(0, 0, 0), (s, v) -> s.would(9, 9, 9, 1, 1, 1, 1, 1),
            (s, v) -> s.ahead(500, 0), (s, v) -> s.drying(0, 0), (s, v) -> s.first(0), (s, v) -> s.site(99, 0),
            (s, v) -> s.pair(99, 0), (s, v) -> s.relief(0), (s, v) -> s.way(0, 0, 0, 0), (s, v) -> s.fits(99, 0),
            (s, v) -> s.look(99, 0), (s, v) -> s.water(0, 0, 1, 9), (s, v) -> s.strongest(0),
            (s, v) -> s.greatest(0), (s, v) -> s.cast(0, 0, 0), (s, v) -> s.ready(0, 0, 0), (s, v) -> s.line(0, 3),
            (s, v) -> s.dryland(0, 0), (s, v) -> s.mounds(0), (s, v) -> s.loss(0), (s, v) -> s.nearest(0, 0),
            (s, v) -> s.poured(0, 0, 999), (s, v) -> s.noon(0), (s, v) -> s.summer(7, 96, 8, 0),
            (s, v) -> s.span(7, 10, 96, 8, 0, 0, 0), (s, v) -> s.status(0), (s, v) -> s.count(0)};
        Make[] makes = {EdgeTest::rich, EdgeTest::largest, EdgeTest::smallest};
        for (Make make : makes) {
            for (Ask ask : all) {
                SunnyPans s = make.made();
                int place = s.fault();
                int first = ask.of(s, 0);
                due(first, ask.of(s, 0));
                due(place, s.fault());
                due(0, s.status(0) + s.status(1));
                leaves(make, s);
            }
        }
    }
}
