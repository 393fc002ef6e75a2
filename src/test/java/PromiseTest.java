import java.util.NoSuchElementException;

/** The promises one by one, each with answers worked out by hand: ordinary calls, edges, wrong calls. */
public final class PromiseTest {
    private interface Call {
        int answer();
    }

    private static int wrong = 0;
    private static int promise = 0;
    private static SunnyPans x = new SunnyPans();

    // A heap of HIGH 3 in the middle of the second row. Shades: HOUR 0 (0,1) (1,1), HOUR 1 (1,1) (2,1), HOUR 2 (1,1).
    private static final String SALTWORKS = "size 3 2;hour 2 10;hour 6 20;hour 0 0;pan 0 0 100 20;pan 1 0 30 10;"
        + "pan 2 1 0 50;heap 1 1 120;";

    public static void main(String[] args) {
        newObject();
        feed();
        works();
        worksForgets();
        worksFaults();
        law();
        lawFaults();
        work();
        workLimits();
        workSteps();
        workMost();
        workFaults();
        book();
        fault();
        undo();
        told();
        pan();
        hour();
        shade();
        dries();
        would();
        ahead();
        drying();
        first();
        site();
        pair();
        relief();
        way();
        fits();
        look();
        water();
        strongest();
        greatest();
        cast();
        ready();
        line();
        dryland();
        mounds();
        loss();
        nearest();
        poured();
        noon();
        summer();
        span();
        imageAndRestore();
        status();
        count();
        if (wrong > 0) {
            System.out.println(wrong + " answers are wrong");
            System.exit(1);
        }
    }

    // ---- how a test is told ----

    private static void begin(int n) {
        promise = n;
        x = new SunnyPans();
    }

    private static void begin(int n, String text) {
        begin(n);
        works(text);
        due(-1, x.fault());
    }

    private static void due(int want, int got) {
        if (got != want) {
            wrong++;
            StackTraceElement at = new Throwable().getStackTrace()[1];
            for (StackTraceElement e : new Throwable().getStackTrace()) {
                if (!e.getMethodName().equals("due") && !e.getMethodName().equals("faulty")) {
                    at = e;
                    break;
                }
            }
            System.out.println("promise " + promise + ", " + at + ": answered " + got + ", due is " + want);
        }
    }

    private static void refused(Class<? extends RuntimeException> want, Call call) {
        int place = want == NoSuchElementException.class ? 0 : 1;
        int counted = x.status(0) + x.status(1);
        int before = x.status(place);
        Object got;
        try {
            got = call.answer();
        } catch (NoSuchElementException | IllegalArgumentException e) {
            got = e.getClass();
        }
        if (got != want || x.status(place) != before + 1 || x.status(0) + x.status(1) != counted + 1) {
            wrong++;
            System.out.println("promise " + promise + ", " + new Throwable().getStackTrace()[2] + ": " + got
                + ", due is " + want);
        }
    }

    private static void missing(Call call) {
        refused(NoSuchElementException.class, call);
    }

    private static void bad(Call call) {
        refused(IllegalArgumentException.class, call);
    }

    private static void put(String text) {
        for (int i = 0; i < text.length(); i += 20) {
            int[] v = new int[5];
            for (int j = 0; j < 20; j++) {
                int c = i + j < text.length() ? text.charAt(i + j) : 0;
                v[j / 4] = v[j / 4] << 8 | c;
            }
            x.feed(v[0], v[1], v[2], v[3], v[4]);
        }
    }

    private static int works(String text) {
        put(text);
        return x.works(text.length());
    }

    private static int law(String text) {
        put(text);
        return x.law(text.length());
    }

    private static int work(String text) {
        put(text);
        return x.work(text.length());
    }

    private static int book(String text) {
        put(text);
        return x.book(text.length());
    }

    private static void faulty(int kind, int place, int answer) {
        due(kind - 10, answer);
        due(place, x.fault());
    }

    private static String times(int n, String text) {
        return text.repeat(n);
    }

    // ---- 1 and 2 ----

    private static void newObject() {
        begin(1);
        int[] want = {4, 4, 0, 0, -1, 0, 0, 0, 0, 0, 0, 0, 0};
        for (int i = 0; i < want.length; i++) {
            due(want[i], x.told(i));
        }
        for (int i = 0; i < 3; i++) {
            due(0, x.count(i));
        }
        due(-1, SunnyPans.NONE);
        due(-1, x.fault());
        due(-1, x.undo());
        due(-1, x.restore());
        due(0, x.status(0));
        due(0, x.status(1));
        due(20, x.would(0, 0, 40, 0, 0, 0, 0, 0));
    }

    private static void feed() {
        begin(2);
        due(20, x.feed(0x73697a65, 0x20332032, 0x3b000000, 0, 0));
        due(20, x.count(1));
        due(0, x.works(9));
        due(3, x.told(0));
        due(2, x.told(1));
        for (int i = 1; i <= 30; i++) {
            due(20 * i, x.feed(-1, 0x80000000, 0x20202020, 0, i));
        }
        due(-1, x.feed(1, 2, 3, 4, 5));
        due(600, x.count(1));
        faulty(1, 0, x.works(600));
        due(0, x.count(1));
        x.feed(0x20202020, 0x20202020, 0x20202020, 0x20202020, 0x202020ff);
        faulty(1, 19, x.works(20));
        x.feed(0x20202020, 0x20202020, 0x20202020, 0x20202020, 0x202020ff);
        due(0, x.works(19));
    }

    // ---- 3 ----

    private static void works() {
        begin(3);
        due(3, works(SALTWORKS));
        due(0, x.count(1));
        due(130, x.told(5));
        due(2, works("hour 1 0;size 8 1;size 5 7; hour 7 40 ;"));
        due(5, x.told(0));
        due(7, x.told(1));
        due(0, x.told(5));
        due(0, works(""));
        due(4, x.told(0));
        due(0, works("    "));
        due(1, works("  size003 002;hour2 10;  pan 0 0 5 6;pan 2 1 7 0008   ;   "));
        due(3, x.told(0));
        due(12, x.told(5));
        due(14, x.told(6));
        due(0, works("pan 0 0 5 6;pan 0 0 1 2;heap 1 1 9;heap 1 1 4;pan 4 0 9 9;pan 0 4 9 9;heap 4 4 9;"));
        due(1, x.told(5));
        due(2, x.told(6));
        due(4, x.told(7));
        due(0, works("pan 1 1 5 6;heap 1 1 9;pan 1 1 7 8;pan 2 2 3 0;size 2 2;"));
        due(0, x.told(5));
        due(0, x.told(6));
        due(9, x.told(7));
        due(0, works("size 8 8;pan 7 7 999 999;heap 6 7 999;"));
        due(999, x.pan(7, 7, 0));
        due(999, x.pan(7, 7, 1));
        due(999, x.pan(6, 7, 3));
        due(10, works(times(10, "hour 7 40;")));
        put("size 3 2;");
        bad(() -> x.works(-1));
        bad(() -> x.works(21));
        bad(() -> x.works(Integer.MAX_VALUE));
        bad(() -> x.works(Integer.MIN_VALUE));
        due(20, x.count(1));
        due(0, x.works(9));
        due(0, x.count(1));
        bad(() -> x.works(1));
    }

    private static void worksForgets() {
        begin(3, SALTWORKS);
        due(1, law("7"));
        due(1, book("0 0 1;"));
        due(4, work("hour;hour;hour;cart 1 1;cart 1 1;"));
        due(1, x.image());
        faulty(1, 0, works("x"));
        due(1, x.told(3));
        due(1, x.told(9));
        due(1, x.told(10));
        due(120, x.told(8));
        due(1, x.count(0));
        due(1, x.count(2));
        due(7, x.would(0, 0, 40, 0, 0, 0, 0, 0));
        due(1, work("hour;"));
        due(3, works(SALTWORKS));
        due(0, x.told(3));
        due(0, x.told(4));
        due(0, x.told(8));
        due(0, x.told(9));
        due(0, x.told(10));
        due(0, x.count(0));
        due(0, x.count(2));
        due(-1, x.undo());
        due(-1, x.restore());
        due(20, x.would(0, 0, 40, 0, 0, 0, 0, 0));
    }

    private static void worksFaults() {
        begin(3);
        faulty(2, 5, works("size 0 1;"));
        faulty(2, 7, works("size 1 9;"));
        faulty(2, 7, works("size 1 0;"));
        faulty(2, 5, works("size 9 1;"));
        faulty(2, 5, works("size 99999999999999999999 1;"));
        faulty(2, 5, works("size 4294967297 1;"));
        faulty(2, 5, works("hour 8 0;"));
        faulty(2, 7, works("hour 0 41;"));
        faulty(2, 4, works("pan 8 0 0 0;"));
        faulty(2, 6, works("pan 0 8 0 0;"));
        faulty(2, 8, works("pan 0 0 1000 0;"));
        faulty(2, 10, works("pan 0 0 0 1000;"));
        faulty(2, 9, works("heap 0 0 0;"));
        faulty(2, 9, works("heap 0 0 1000;"));
        faulty(2, 5, works("heap 8 0 1;"));
        faulty(2, 7, works("heap 0 8 1;"));
        faulty(1, 0, works(";"));
        faulty(1, 0, works("5"));
        faulty(1, 0, works("Size 1 1;"));
        faulty(1, 1, works(" siz 1 1;"));
        faulty(1, 0, works("sizes 1 1;"));
        faulty(1, 6, works("size 1,1;"));
        faulty(1, 8, works("size 1 1"));
        faulty(1, 10, works("size 1 1  "));
        faulty(1, 6, works("size 1"));
        faulty(1, 4, works("size"));
        faulty(1, 9, works("size 1 1 1;"));
        faulty(1, 8, works("size 1 1x;"));
        faulty(1, 5, works("heap a 0 8;"));
        faulty(1, 7, works("hour 0 ;"));
        faulty(3, 90, works(times(11, "hour 0 0;")));
        faulty(1, 90, works(times(10, "hour 0 0;") + "hours 0 0;"));
        faulty(3, 90, works(times(10, "hour 0 0;") + "hour"));
        due(0, works(times(60, "size 1 1;") + "   "));
        faulty(3, 541, works(times(60, "size 1 1;") + " size 9"));
        faulty(3, 540, works(times(60, "size 1 1;") + "pan"));
        faulty(3, 540, works(times(60, "size 1 1;") + "heap"));
        faulty(3, 540, works(times(60, "size 1 1;") + "hour"));
        faulty(1, 540, works(times(60, "size 1 1;") + "hou"));
        faulty(1, 540, works(times(60, "size 1 1;") + ";"));
    }

    // ---- 4 ----

    private static int asked(String law) {
        due(1, law(law));
        return x.would(9, 8, 7, 6, 5, 4, 3, 2);
    }

    private static void law() {
        begin(4);
        due(11, x.would(9, 8, 7, 6, 5, 4, 3, 2));
        due(9, asked("brine"));
        due(8, asked("salt"));
        due(7, asked("reach"));
        due(6, asked("side"));
        due(5, asked("hour"));
        due(4, asked("day"));
        due(3, asked("col"));
        due(2, asked("row"));
        due(0, asked("0"));
        due(99, asked("999"));
        due(99, asked("100"));
        due(98, asked("98"));
        due(14, asked("2+3*4"));
        due(20, asked("(2+3)*4"));
        due(5, asked("10-3-2"));
        due(9, asked("10-(3-2)"));
        due(5, asked("100/10/2"));
        due(20, asked("100/(10/2)"));
        due(2, asked("17%5%3"));
        due(3, asked("7*5%8"));
        due(3, asked("7/2"));
        due(7, asked("10+(0-7)/2"));
        due(9, asked("10+(0-7)%2"));
        due(11, asked("10+7%(0-2)"));
        due(10, asked("10+7/0"));
        due(10, asked("10+7%0"));
        due(10, asked("10+7%(day-4)"));
        due(0, asked("3-4"));
        due(3, asked("least[3,4]"));
        due(3, asked("least [ 4 , 3 ] "));
        due(4, asked("most[3,4]"));
        due(12, asked("most[4,3]*least[7,most[3,1]]"));
        due(17, asked(" brine+salt"));
        due(8, asked("0008"));
        due(1, asked("((((((1))))))"));
        due(1, asked("most[most[most[most[most[most[1,1],1],1],1],1],1]"));
        due(6, asked("((((((1))))))+((((((2))))))+most[least[most[least[most[least[3,4],0],9],0],9],0]"));
        // 999 * 999 * 999 is 997,002,999; three times that is over 2,147,483,647, five times is 690,047,699 over 2 ** 32
        due(0, asked("999*999*999*3"));
        due(69, asked("999*999*999*5/999/999/10"));
        // 512 * 512 * 512 * 16 is 2 ** 31, the one number that has no other sign
        due(0, asked("512*512*512*16"));
        due(0, asked("512*512*512*16/(0-1)"));
        due(99, asked("512*512*512*16-1"));
        due(4, asked("512*512*512*16%(0-1)+4"));
        due(1, law(times(74, "1+") + "1"));
        due(75, x.would(0, 0, 0, 0, 0, 0, 0, 0));
        put(times(200, " "));
        bad(() -> x.law(151));
        bad(() -> x.law(-1));
        bad(() -> x.law(201));
        due(200, x.count(1));
        faulty(1, 150, x.law(150));
        due(0, x.count(1));
        due(75, x.would(0, 0, 0, 0, 0, 0, 0, 0));
        put("1");
        bad(() -> x.law(21));
    }

    private static void lawFaults() {
        begin(4);
        due(1, law("5"));
        faulty(1, 0, law(""));
        faulty(1, 3, law("   "));
        faulty(2, 0, law("1000"));
        faulty(1, 0, law("brines"));
        faulty(1, 0, law("Brine"));
        faulty(1, 2, law("1 2"));
        faulty(1, 1, law("1)"));
        faulty(1, 2, law("(1"));
        faulty(1, 2, law("1+"));
        faulty(1, 2, law("1+*2"));
        faulty(1, 0, law("-1"));
        faulty(1, 1, law("()"));
        faulty(1, 5, law("least"));
        faulty(1, 5, law("least(1,2)"));
        faulty(1, 8, law("least [1]"));
        faulty(1, 7, law("most[1 2]"));
        faulty(1, 8, law("most[1,2)"));
        faulty(1, 8, law("most[1,2"));
        faulty(1, 8, law("most[1,2,3]"));
        faulty(1, 5, law("brine2"));
        faulty(1, 3, law("day;"));
        faulty(3, 6, law("(((((((1)))))))"));
        faulty(3, 6, law("((((((least"));
        faulty(3, 8, law("((((((  most[1,2]"));
        faulty(3, 30, law("most[most[most[most[most[most[(1),1"));
        faulty(1, 6, law("((((((leas"));
        due(5, x.would(0, 0, 0, 0, 0, 0, 0, 0));
    }

    // ---- 5 ----

    private static void work() {
        begin(5, SALTWORKS);
        due(6, work("rake 2 1 1 1;rake 2 1 1 1;rake 2 1 2 0;let 2 1 80;let 1 1 5;hour;cart 0 0;rain 20;hour;hour;"));
        due(4, x.told(10));
        due(1, x.told(3));
        due(174, x.told(5));
        due(150, x.told(7));
        due(0, work(""));
        due(0, x.told(10));
        due(0, work("   "));
        due(3, x.count(2));
        due(15, work("again 3[ again 2 [rain 1;rain 1;];again 0[hour;];rain 2;];"));
        due(0, work("again 0[hour;];again 60[];again 60[again 60[again 60[];];];"));
        // 1 + 1 + (1 + 60) * 3 = 185, then an again and 14 more
        due(194, work("again 2[again 60[again 60[rain 1;];];];"));
        due(0, x.told(10));
        // 1 + 3 * 61 = 184, then an again and 15 more
        due(0, work("again 60[again 60[cart 0 0;];];"));
        due(195, x.told(10));
        due(199, work("again 60[rain 1;rain 1;rain 1;rain 1;];rain 1;"));
        due(0, x.told(10));
        // what is left out is no step at all: neither done nor refused
        due(199, work("again 40[rain 1;rain 1;rain 1;rain 1;rain 1;];again 3[cart 0 0;];cart 0 0;"));
        due(0, x.told(10));
        due(6, work("again 1[again 1[again 1[again 1[again 1[again 1[rain 1;];];];];];];again 5[rain 1;];"));
    }

    private static void workLimits() {
        begin(5, "hour 0 0;");
        for (int i = 1; i <= 16; i++) {
            due(0, work(""));
            due(i, x.count(2));
        }
        faulty(1, 0, law(""));
        put("hours");
        bad(() -> x.work(21));
        due(-20, x.work(5));
        due(-1, x.fault());
        due(0, x.count(1));
        due(16, x.count(2));
        due(15, x.undo());
        due(1, work("hour;cart 0 0;"));
        due(1, x.told(10));
        due(-20, work("hour;"));
        due(1, x.told(10));
        due(1, x.told(3));
        begin(5, "hour 0 0;pan 0 0 999 0;");
        due(199, work("again 60[hour;hour;hour;hour;];"));
        due(199, work("again 60[hour;hour;hour;hour;];"));
        due(2, work("again 5[hour;];"));
        due(3, x.told(10));
        due(400, x.told(3));
        due(410, x.ahead(10, 2));
        due(1, work("let 0 0 1;hour;"));
        put(times(160, " "));
        bad(() -> x.work(151));
        bad(() -> x.work(-1));
        due(0, x.work(150));
    }

    private static void workSteps() {
        begin(5, "size 3 1;pan 0 0 9 9;heap 1 0 100;pan 2 0 0 70;");
        due(0, work("hour;"));
        due(1, x.told(10));
        due(1, work("let 0 0 15;let 1 0 1;"));
        due(24, x.pan(0, 0, 0));
        due(10, x.pan(0, 0, 1));
        due(0, work("rake 0 0 1 0;rake 1 0 2 0;rake 2 0 2 0;rake 2 0 0 0;cart 0 0;cart 2 0;"));
        due(6, x.told(10));
        due(1, work("rake 2 0 1 0;rake 2 0 1 0;"));
        due(170, x.pan(1, 0, 3));
        due(0, x.pan(2, 0, 1));
        due(1, work("rain 99;"));
        due(71, x.pan(1, 0, 3));
        due(0, x.pan(1, 0, 0));
        due(123, x.pan(0, 0, 0));
        due(99, x.pan(2, 0, 0));
        due(1, work("rain 70;"));
        due(1, x.pan(1, 0, 3));
        due(1, work("rain 1;"));
        due(0, x.pan(1, 0, 3));
        due(0, x.pan(1, 0, 0));
        due(1, work("rain 2;"));
        due(2, x.pan(1, 0, 0));
        begin(5, "size 2 1;heap 0 0 5;heap 1 0 6;");
        due(1, work("rain 5;"));
        due(0, x.pan(0, 0, 0));
        due(0, x.pan(0, 0, 3));
        due(0, x.pan(1, 0, 0));
        due(1, x.pan(1, 0, 3));
        due(2, work("cart 1 0;cart 1 0;let 0 0 8;"));
        due(1, x.told(8));
        due(8, x.pan(0, 0, 0));
        due(1, x.pan(0, 0, 1));
        begin(5, "size 3 2;pan 0 0 0 5;pan 1 0 0 6;pan 2 0 3 0;");
        due(0, work("rake 0 0 1 0;rake 0 0 2 0;rake 0 1 1 1;"));
        due(2, work("rake 0 0 0 1;rake 1 0 0 1;"));
        due(11, x.pan(0, 1, 3));
        due(0, x.told(6));
        // The brine of an hour falls by what the law says ahead of it, of each pan by its own brine and salt.
        begin(5, "size 3 1;hour 2 10;hour 6 20;pan 0 0 40 8;pan 1 0 20 0;pan 2 0 9 3;");
        law("brine/2+salt-day*4+hour");
        due(4, work("hour;hour;hour;hour;"));
        due(2, x.told(3));
        // 40 - 28 = 12, - 15: 0;  20 - 10 = 10, - 6 = 4, - 0 (2 - 4) = 4, - 0 (2 - 4 + 1) = 4;  9 - 7 = 2, - 5: 0
        due(0, x.pan(0, 0, 0));
        due(4, x.pan(1, 0, 0));
        due(0, x.pan(2, 0, 0));
        due(8, x.pan(0, 0, 1));
    }

    /** What 9,999 bounds: brine, salt, grams, and rain, which fills no pan over it. */
    private static void workMost() {
        begin(5, times(10, "hour 0 40;") + "size 4 1;pan 0 0 0 999;pan 1 0 0 999;");
        law("99");
        for (int i = 0; i < 4; i++) {
            due(180, work("again 15[let 0 0 999;again 11[hour;];];"));
        }
        due(177, work("again 15[let 0 0 999;again 11[hour;];];"));
        due(3, x.told(10));
        due(999 + 72 * 124, x.pan(0, 0, 1));
        due(0, work("let 0 0 584;"));
        due(2, work("let 0 0 583;let 0 0 8;let 0 0 7;"));
        due(9_999, x.pan(0, 0, 1));
        due(7, work("again 6[hour;];rake 0 0 3 0;rake 1 0 3 0;"));
        due(1, x.told(10));
        due(9_999, x.pan(3, 0, 3));
        due(200, x.pan(3, 0, 4));
        begin(5, "size 3 1;pan 0 0 999 0;pan 1 0 0 9;pan 2 0 999 0;");
        due(9, work("again 9[let 0 0 999;];let 0 0 999;"));
        due(9_990, x.pan(0, 0, 0));
        due(3, work("let 0 0 10;let 0 0 4;rain 4;let 0 0 1;let 0 0 2;"));
        due(9_999, x.pan(0, 0, 0));
        due(2, x.told(10));
        due(2, work("rain 99;again 1[rain 1;];"));
        due(9_999, x.pan(0, 0, 0));
        due(1_103, x.pan(2, 0, 0));
    }

    private static void workFaults() {
        begin(5, "size 3 2;");
        faulty(2, 4, work("let 3 0 1;"));
        faulty(2, 6, work("let 2 2 1;"));
        faulty(2, 8, work("let 0 0 0;"));
        faulty(2, 8, work("let 0 0 1000;"));
        faulty(2, 5, work("rake 3 0 0 0;"));
        faulty(2, 7, work("rake 0 2 0 0;"));
        faulty(2, 9, work("rake 0 0 3 0;"));
        faulty(2, 11, work("rake 0 0 0 2;"));
        faulty(2, 5, work("cart 3 0;"));
        faulty(2, 7, work("cart 0 2;"));
        faulty(2, 5, work("rain 0;"));
        faulty(2, 5, work("rain 100;"));
        faulty(2, 6, work("again 61[];"));
        faulty(1, 0, work("hours;"));
        faulty(1, 4, work("hour"));
        faulty(1, 5, work("hour hour;"));
        faulty(1, 0, work("];"));
        faulty(1, 0, work(";"));
        faulty(1, 6, work("again [hour;];"));
        faulty(1, 7, work("again 1(hour;);"));
        faulty(1, 13, work("again 1[hour;"));
        faulty(1, 12, work("again 1[hour];"));
        faulty(1, 10, work("again 1[] hour;"));
        faulty(1, 9, work("again 1[]"));
        faulty(1, 10, work("again 1[];];"));
        faulty(3, 54, work(times(7, "again 1 [")));
        faulty(3, 48, work(times(6, "again 0[") + "again"));
        faulty(1, 48, work(times(6, "again 0[") + "agai"));
        faulty(1, 48, work(times(6, "again 0[")));
        due(0, work(times(6, "again 1[") + times(6, "];") + times(5, "again 1[") + times(5, "];")));
        due(1, x.count(2));
        // With a fault none of the steps is done, and the refused ones stay those of the work before.
        due(0, work("cart 0 0;"));
        faulty(1, 14, work("rain 9;rain 9;;"));
        due(0, x.told(5));
        due(1, x.told(10));
        due(2, x.count(2));
    }

    // ---- 6 to 9 ----

    private static void book() {
        begin(6, SALTWORKS);
        due(0, book(""));
        due(2, book(" 0 0 63 ; 1 0 0 ;  "));
        due(2, x.told(9));
        faulty(2, 0, book("3 0 1;"));
        faulty(2, 2, book("0 2 1;"));
        faulty(2, 4, book("0 0 10000;"));
        faulty(2, 8, book("0 0 1;0 0 2;"));
        faulty(2, 14, book("0 0 1;1 1 2;0 0"));
        faulty(1, 5, book("0 0 1"));
        faulty(1, 4, book("0 0 ;"));
        faulty(1, 0, book("a 0 1;"));
        faulty(1, 0, book(";"));
        faulty(1, 6, book("0 0 1 2;"));
        due(2, x.told(9));
        due(1, book("2 1 9999;"));
        begin(6, "size 8 8;");
        String eight = "0 0 1;1 0 1;2 0 1;3 0 1;4 0 1;5 0 1;6 0 1;7 0 1;";
        due(8, book(eight));
        due(8, x.told(9));
        faulty(3, 48, book(eight + "0"));
        faulty(3, 49, book(eight + " 0 0 1;"));
        faulty(2, 48, book(eight + "8 0 1;"));
        faulty(1, 48, book(eight + ";"));
        due(8, book(eight + "    "));
        put(times(80, " "));
        bad(() -> x.book(61));
        bad(() -> x.book(-1));
        due(80, x.count(1));
        due(0, x.book(60));
        due(0, x.count(1));
        due(0, x.told(9));
    }

    private static void fault() {
        begin(7);
        due(-1, x.fault());
        faulty(1, 3, works("   ;"));
        due(3, x.fault());
        bad(() -> x.works(1));
        due(3, x.fault());
        due(0, works(""));
        due(-1, x.fault());
        faulty(2, 0, law("1000"));
        due(0, work(""));
        due(-1, x.fault());
        faulty(1, 1, law("1;"));
        due(0, book(""));
        due(-1, x.fault());
        faulty(1, 1, book("1;"));
        due(1, law("1"));
        due(-1, x.fault());
    }

    private static void undo() {
        begin(8, SALTWORKS);
        due(-1, x.undo());
        due(2, work("hour;rake 2 1 1 1;cart 0 0;"));
        due(1, work("cart 1 1;"));
        due(0, work(""));
        due(2, work("rain 9;rain 9;cart 0 0;"));
        due(3, x.undo());
        due(0, x.told(10));
        due(106, x.told(5));
        due(170, x.told(8));
        due(2, x.undo());
        due(170, x.told(8));
        due(1, x.undo());
        due(0, x.told(8));
        due(170, x.told(7));
        due(1, x.told(4));
        due(6, x.shade(1, 1));
        due(0, work("cart 0 0;"));
        faulty(1, 0, work("!"));
        due(1, x.undo());
        due(0, x.undo());
        due(130, x.told(5));
        due(80, x.told(6));
        due(120, x.told(7));
        due(0, x.told(4));
        due(0, work("cart 0 0;"));
        due(0, x.undo());
        faulty(1, 0, work("!"));
        due(-1, x.undo());
        due(0, work("cart 0 0;cart 0 0;"));
        due(0, x.undo());
        due(0, x.told(10));
        due(0, work("cart 0 0;"));
        due(1, x.told(10));
        due(3, works(SALTWORKS));
        due(-1, x.undo());
        due(0, work("cart 0 0;"));
        due(0, x.undo());
        due(-1, x.undo());
    }

    private static void told() {
        begin(9, SALTWORKS);
        int[] want = {3, 2, 3, 0, 0, 130, 80, 120, 0, 0, 0, 1, 1};
        for (int i = 0; i < want.length; i++) {
            due(want[i], x.told(i));
        }
        bad(() -> x.told(-1));
        bad(() -> x.told(13));
        bad(() -> x.told(Integer.MIN_VALUE));
        due(5, work("hour;hour;hour;hour;cart 1 1;cart 1 1;"));
        int[] then = {3, 2, 3, 1, 1, 51, 80, 0, 120, 0, 1, 0, 2};
        for (int i = 0; i < then.length; i++) {
            due(then[i], x.told(i));
        }
        faulty(1, 0, work(";"));
        due(1, x.told(10));
        due(0, x.undo());
        due(-1, x.undo());
        due(0, x.told(10));
        due(0, work("cart 0 0;"));
        due(-1, x.restore());
        due(1, x.told(10));
    }

    // ---- 10 to 14 ----

    private static void pan() {
        begin(10, SALTWORKS);
        due(100, x.pan(0, 0, 0));
        due(20, x.pan(0, 0, 1));
        due(166, x.pan(0, 0, 2));
        due(250, x.pan(1, 0, 2));
        due(1_000, x.pan(2, 1, 2));
        due(0, x.pan(2, 0, 2));
        due(0, x.pan(1, 1, 2));
        due(120, x.pan(1, 1, 3));
        due(3, x.pan(1, 1, 4));
        due(0, x.pan(0, 0, 4));
        due(3, x.pan(0, 0, 5));
        due(2, x.pan(0, 1, 5));
        due(0, x.pan(1, 1, 5));
        due(1, x.pan(0, 1, 6));
        due(1, x.pan(1, 1, 6));
        due(0, x.pan(2, 1, 6));
        due(1, work("hour;"));
        due(0, x.pan(0, 1, 6));
        due(1, x.pan(2, 1, 6));
        bad(() -> x.pan(0, 0, -1));
        bad(() -> x.pan(0, 0, 7));
        missing(() -> x.pan(3, 0, 0));
        missing(() -> x.pan(0, 2, 0));
        missing(() -> x.pan(-1, 0, 0));
        missing(() -> x.pan(0, -1, 0));
        missing(() -> x.pan(3, 0, 9));
        begin(10, "heap 0 0 49;heap 1 0 50;heap 2 0 99;heap 3 0 100;heap 0 1 999;");
        due(1, x.pan(0, 0, 4));
        due(2, x.pan(1, 0, 4));
        due(2, x.pan(2, 0, 4));
        due(3, x.pan(3, 0, 4));
        due(20, x.pan(0, 1, 4));
        due(0, x.pan(0, 0, 6));
        due(0, x.pan(1, 1, 5));
    }

    private static void hour() {
        begin(11, SALTWORKS);
        due(2, x.hour(0, 0));
        due(10, x.hour(0, 1));
        due(2, x.hour(0, 2));
        due(6, x.hour(1, 0));
        due(20, x.hour(1, 1));
        due(2, x.hour(1, 2));
        due(0, x.hour(2, 0));
        due(0, x.hour(2, 1));
        due(1, x.hour(2, 2));
        missing(() -> x.hour(3, 0));
        missing(() -> x.hour(-1, 0));
        missing(() -> x.hour(3, 3));
        bad(() -> x.hour(0, 3));
        bad(() -> x.hour(0, -1));
        begin(11);
        missing(() -> x.hour(0, 0));
    }

    private static void shade() {
        begin(12, SALTWORKS);
        due(3, x.shade(0, 1));
        due(6, x.shade(1, 1));
        due(2, x.shade(2, 1));
        due(0, x.shade(0, 0));
        missing(() -> x.shade(3, 0));
        missing(() -> x.shade(-1, 0));
        missing(() -> x.shade(0, 2));
        missing(() -> x.shade(0, -1));
        // One heap in the middle, its shadow two places long (HIGH 1, R 29), the sun at each of the sides.
        StringBuilder b = new StringBuilder("size 5 5;heap 2 2 9;");
        for (int side = 0; side < 8; side++) {
            b.append("hour ").append(side).append(" 29;");
        }
        begin(12, b.toString());
        int[][] rows = {
            {0, 0, 4, 4, 4}, {0, 0, 4, 2, 1}, {0, 0, 7, 0, 0}, {1, 2, 4, 0, 0},
            {4, 4, 4, 0, 0}, {16, 8, 4, 0, 0}, {0, 0, 28, 0, 0}, {0, 0, 4, 8, 16},
        };
        for (int side = 0; side < 8; side++) {
            for (int y = 0; y < 5; y++) {
                due(rows[side][y], x.shade(side, y));
            }
        }
        // HIGH times R by 10, cut once: 3 times 9 is 27, so two places, though 9 by 10 alone is none.
        begin(12, "size 6 1;hour 2 9;hour 2 3;heap 5 0 100;");
        due(32 + 16 + 8, x.shade(0, 0));
        due(32, x.shade(1, 0));
    }

    private static void dries() {
        begin(13, SALTWORKS);
        due(12, x.dries(0, 0, 0));
        due(15, x.dries(0, 0, 1));
        due(10, x.dries(0, 0, 2));
        due(15, x.dries(1, 1, 1));
        law("brine/2+salt*2+reach-side*hour+day*9+col*7-row*5");
        due(99, x.dries(0, 0, 0));
        due(56, x.dries(1, 0, 1));
        due(12, x.dries(1, 1, 0));
        due(0, x.dries(0, 1, 2));
        work("hour;hour;hour;");
        // by now: no brine is left at 1, 0; a day is gone
        due(46, x.dries(1, 0, 0));
        missing(() -> x.dries(3, 0, 0));
        missing(() -> x.dries(0, 2, 0));
        missing(() -> x.dries(0, 0, 3));
        missing(() -> x.dries(0, 0, -1));
        due(4, x.dries(0, 1, 2));
    }

    private static void would() {
        begin(14, SALTWORKS);
        due(12, x.would(100, 20, 10, 2, 0, 0, 0, 0));
        law("brine-10*999+salt-10*999+reach-30+side+hour+day-390+col+row");
        due(68, x.would(9_999, 9_999, 40, 7, 9, 400, 7, 7));
        due(0, x.would(0, 0, 0, 0, 0, 0, 0, 0));
        int[] most = {9_999, 9_999, 40, 7, 9, 400, 7, 7};
        for (int i = 0; i < 8; i++) {
            int[] v = new int[8];
            v[i] = most[i];
            x.would(v[0], v[1], v[2], v[3], v[4], v[5], v[6], v[7]);
            v[i]++;
            bad(() -> x.would(v[0], v[1], v[2], v[3], v[4], v[5], v[6], v[7]));
            v[i] = -1;
            bad(() -> x.would(v[0], v[1], v[2], v[3], v[4], v[5], v[6], v[7]));
        }
    }

    // ---- 15 to 17 ----

    private static void ahead() {
        begin(15, SALTWORKS);
        due(130, x.ahead(0, 0));
        due(106, x.ahead(1, 0));
        due(63, x.ahead(3, 0));
        due(51, x.ahead(4, 0));
        due(3, x.ahead(0, 1));
        due(3, x.ahead(2, 1));
        due(4, x.ahead(3, 1));
        due(5, x.ahead(500, 1));
        due(0, x.ahead(2, 2));
        due(1, x.ahead(3, 2));
        due(166, x.ahead(500, 2));
        due(130, x.told(5));
        due(0, x.told(3));
        bad(() -> x.ahead(-1, 0));
        bad(() -> x.ahead(501, 0));
        bad(() -> x.ahead(0, 3));
        bad(() -> x.ahead(0, -1));
        work("hour;hour;");
        due(1, x.ahead(1, 2));
        due(63, x.ahead(1, 0));
        begin(15, "pan 0 0 9 9;heap 1 0 5;");
        due(9, x.ahead(500, 0));
        due(14, x.ahead(500, 1));
        due(0, x.ahead(500, 2));
    }

    private static void drying() {
        begin(16, SALTWORKS);
        due(3, x.drying(1, 0));
        due(8, x.drying(0, 0));
        due(0, x.drying(2, 0));
        due(0, x.drying(2, 1));
        due(-1, x.drying(1, 1));
        missing(() -> x.drying(3, 0));
        missing(() -> x.drying(0, -1));
        begin(16, "pan 0 0 500 0;pan 1 0 501 0;hour 0 0;");
        law("1");
        due(500, x.drying(0, 0));
        due(-1, x.drying(1, 0));
        law("least[1,day]");
        due(-1, x.drying(0, 0));
        law("most[0,day-400]");
        due(433, x.drying(0, 0));
        begin(16, "pan 0 0 5 0;heap 1 0 5;");
        due(-1, x.drying(0, 0));
        due(-1, x.drying(1, 0));
        due(0, x.drying(2, 0));
        // in shade at the one hour of the day, so it never dries
        begin(16, "size 2 1;pan 0 0 5 0;heap 1 0 5;hour 2 10;");
        due(-1, x.drying(0, 0));
    }

    private static void first() {
        begin(17, SALTWORKS);
        due(1, x.first(0));
        due(3, x.first(1));
        bad(() -> x.first(2));
        bad(() -> x.first(-1));
        begin(17, "hour 0 0;pan 2 1 20 0;pan 0 3 11 0;pan 1 2 20 0;pan 1 1 30 0;");
        due(12, x.first(0));
        due(2, x.first(1));
        work("hour;hour;hour;");
        due(-1, x.first(0));
        due(-1, x.first(1));
        begin(17, "pan 0 0 5 5;");
        due(-1, x.first(0));
        due(-1, x.first(1));
        begin(17, "hour 2 10;pan 0 0 5 5;heap 1 0 5;pan 3 3 999 0;");
        due(33, x.first(0));
        due(84, x.first(1));
        law("0");
        due(-1, x.first(0));
    }

    // ---- 18 to 20 ----

    private static void site() {
        begin(18, SALTWORKS);
        due(10, x.site(49, 0));
        due(2, x.site(49, 1));
        bad(() -> x.site(0, 0));
        bad(() -> x.site(1_000, 0));
        bad(() -> x.site(1, 2));
        bad(() -> x.site(1, -1));
        begin(18, "size 3 1;hour 2 10;");
        due(0, x.site(49, 0));
        due(1, x.site(49, 1));
        begin(18, "size 3 1;hour 6 10;");
        due(2, x.site(49, 0));
        due(1, x.site(49, 1));
        begin(18, "size 3 1;hour 6 10;pan 2 0 0 1;");
        due(0, x.site(49, 0));
        due(2, x.site(49, 1));
        begin(18, "size 3 1;hour 6 10;pan 2 0 1 0;pan 1 0 1 0;");
        due(0, x.site(49, 0));
        due(2, x.site(49, 1));
        due(3, x.site(50, 1));
        begin(18, "size 2 2;pan 0 0 1 0;");
        due(1, x.site(5, 0));
        due(0, x.site(5, 1));
        begin(18, "size 1 2;pan 0 0 1 0;heap 0 1 3;");
        due(-1, x.site(5, 0));
        due(-1, x.site(5, 1));
        // where there is shade already, a heap brings none: 1, 0 and 2, 0 lie in the shadow of 0, 0
        begin(18, "size 4 1;hour 6 10;heap 0 0 60;");
        due(1, x.site(9, 0));
        due(0, x.site(9, 1));
    }

    private static void pair() {
        begin(19, SALTWORKS);
        due(2, x.pair(49, 0));
        due(10, x.pair(49, 1));
        due(6, x.pair(49, 2));
        bad(() -> x.pair(0, 0));
        bad(() -> x.pair(1_000, 0));
        bad(() -> x.pair(1, 3));
        bad(() -> x.pair(1, -1));
        begin(19, "size 3 1;hour 6 10;");
        due(1, x.pair(49, 0));
        due(2, x.pair(49, 1));
        due(2, x.pair(49, 2));
        begin(19, "size 3 1;hour 6 0;hour 6 0;");
        due(0, x.pair(49, 0));
        due(1, x.pair(49, 1));
        due(4, x.pair(49, 2));
        begin(19, "size 3 1;");
        due(0, x.pair(49, 0));
        due(1, x.pair(49, 1));
        due(0, x.pair(49, 2));
        begin(19, "size 3 1;pan 0 0 1 0;pan 2 0 0 1;");
        due(-1, x.pair(49, 0));
        due(-1, x.pair(49, 1));
        due(-1, x.pair(49, 2));
    }

    private static void relief() {
        begin(20, SALTWORKS);
        due(11, x.relief(0));
        due(5, x.relief(1));
        bad(() -> x.relief(2));
        bad(() -> x.relief(-1));
        begin(20, "size 4 1;hour 6 10;heap 0 0 60;heap 1 0 10;");
        due(0, x.relief(0));
        due(1, x.relief(1));
        begin(20, "size 4 1;hour 6 0;heap 2 0 5;heap 3 0 5;");
        due(2, x.relief(0));
        due(1, x.relief(1));
        begin(20, "size 4 1;hour 6 10;heap 0 0 5;heap 2 0 5;heap 1 0 9;hour 2 0;");
        due(0, x.relief(0));
        due(2, x.relief(1));
        begin(20, "size 5 1;hour 6 10;heap 0 0 5;heap 2 0 50;heap 1 0 9;hour 2 0;");
        due(2, x.relief(0));
        due(3, x.relief(1));
        begin(20, "heap 2 2 5;heap 3 1 999;");
        due(13, x.relief(0));
        due(0, x.relief(1));
        begin(20, "hour 0 0;");
        due(-1, x.relief(0));
        due(-1, x.relief(1));
    }

    // ---- 21 to 24 ----

    private static void way() {
        begin(21, "size 3 3;pan 1 0 5 0;pan 1 1 5 0;heap 2 1 9;pan 0 2 0 9;");
        due(6, x.way(0, 0, 2, 0));
        due(6, x.way(2, 0, 0, 0));
        due(0, x.way(0, 0, 0, 0));
        due(-1, x.way(1, 0, 1, 0));
        due(-1, x.way(0, 0, 1, 1));
        due(-1, x.way(1, 1, 0, 0));
        missing(() -> x.way(3, 0, 0, 0));
        missing(() -> x.way(0, 3, 0, 0));
        missing(() -> x.way(0, 0, 3, 0));
        missing(() -> x.way(0, 0, 0, -1));
        work("let 1 2 1;");
        due(-1, x.way(0, 0, 2, 0));
        due(2, x.way(2, 0, 2, 2));
        // The longest way: along every second row there and back.
        begin(21, "size 8 8;" + wall(1, 0, 7) + wall(3, 1, 8) + wall(5, 0, 7) + wall(7, 1, 8));
        due(4 * 7 + 6 + 1, x.way(0, 0, 0, 7));
        due(2, x.way(7, 0, 7, 2));
        due(-1, x.way(0, 0, 1, 7));
        // Nothing hangs together round the ends of rows.
        begin(21, "size 8 8;pan 6 0 1 0;pan 7 1 1 0;pan 0 2 1 0;pan 1 1 1 0;pan 0 0 1 0;");
        due(-1, x.way(7, 0, 0, 1));
        due(-1, x.way(0, 1, 7, 0));
    }

    private static String wall(int y, int from, int to) {
        StringBuilder b = new StringBuilder();
        for (int i = from; i < to; i++) {
            b.append("pan ").append(i).append(' ').append(y).append(" 1 0;");
        }
        return b.toString();
    }

    private static void fits() {
        begin(22, "size 3 1;hour 6 10;pan 2 0 50 0;");
        due(2, x.fits(10, 0));
        due(0, x.fits(10, 1));
        book("2 0 50;");
        due(1, x.fits(10, 0));
        due(1, x.fits(10, 1));
        due(2, x.fits(60, 0));
        due(0, x.fits(60, 1));
        book("2 0 38;");
        due(1, x.fits(10, 0));
        due(0, x.fits(10, 1));
        due(0, x.fits(60, 0));
        due(-1, x.fits(60, 1));
        book("0 0 0;1 0 0;");
        due(2, x.fits(60, 0));
        book("0 0 1;");
        due(0, x.fits(60, 0));
        book("2 0 50;1 0 1;");
        due(0, x.fits(10, 0));
        bad(() -> x.fits(0, 0));
        bad(() -> x.fits(1_000, 0));
        bad(() -> x.fits(1, 2));
        bad(() -> x.fits(1, -1));
        // From the next hour on, as many as there are in a day, the day behind the last one a new one.
        begin(22, "size 2 1;hour 2 0;hour 6 10;hour 2 0;pan 1 0 90 0;");
        law("hour*10+day+1");
        work("hour;");
        due(89, x.pan(1, 0, 0));
        // in shade at hour 1, so 21 at hour 2, then 2 at hour 0 of the next day
        book("1 0 66;");
        due(1, x.fits(1, 0));
        begin(22, "size 2 2;pan 1 0 90 0;heap 0 1 3;pan 1 1 0 3;");
        book("1 0 90;");
        due(1, x.fits(5, 0));
        due(0, x.fits(5, 1));
        book("1 0 89;");
        due(0, x.fits(5, 0));
    }

    private static void look() {
        begin(23, "size 3 1;hour 6 10;pan 2 0 50 0;");
        due(2, x.look(10, 0));
        due(1, x.look(10, 1));
        due(0, x.look(60, 0));
        due(2, x.look(60, 1));
        book("2 0 50;");
        due(0, x.look(10, 0));
        due(1, x.look(10, 1));
        book("2 0 7;");
        due(0, x.look(10, 0));
        due(0, x.look(10, 1));
        book("0 0 7;");
        due(1, x.look(10, 0));
        book("0 0 0;1 0 0;2 0 38;");
        due(-1, x.look(10, 0));
        due(-1, x.look(10, 1));
        bad(() -> x.look(0, 0));
        bad(() -> x.look(1_000, 0));
        bad(() -> x.look(1, 2));
        bad(() -> x.look(1, -1));
        // 5 sites; shadows of HIGH 1 and R 10 from the west: pan 5 tells one from four, pan 2 likewise; the first is 2
        begin(23, "size 7 1;hour 6 10;pan 2 0 50 0;pan 5 0 50 0;");
        due(5, x.fits(9, 0));
        due(2, x.look(9, 0));
        due(4, x.look(9, 1));
        // R 20: pan 2 is in shade by sites 0 and 1, pan 5 by 3 and 4
        begin(23, "size 7 1;hour 6 20;hour 6 10;pan 5 0 50 0;");
        due(6, x.fits(9, 0));
        // site 4: both hours in shade, 50; site 3: the first only, 38 (12 gone); else 50 - 15 - 12 = 23
        due(5, x.look(9, 0));
        due(4, x.look(9, 1));
        begin(23, "pan 0 0 5 0;");
        due(0, x.look(9, 0));
        due(15, x.look(9, 1));
    }

    private static void water() {
        begin(24, "size 4 2;pan 0 0 10 0;pan 1 0 40 0;pan 2 0 100 0;pan 0 1 999 0;");
        due(50, x.water(2, 0, 7, 100));
        due(40, x.water(1, 0, 7, 100));
        due(10, x.water(0, 0, 7, 100));
        due(49, x.water(2, 0, 7, 99));
        due(25, x.water(1, 0, 7, 60));
        due(25, x.water(2, 0, 7, 61));
        due(26, x.water(2, 0, 7, 62));
        due(10, x.water(0, 0, 7, 31));
        due(9, x.water(0, 0, 7, 29));
        due(0, x.water(0, 0, 7, 2));
        due(1, x.water(0, 0, 7, 3));
        due(0, x.water(3, 0, 15, 99));
        due(100, x.water(2, 0, 15, 150));
        due(99, x.water(2, 0, 15, 149));
        due(100, x.water(2, 0, 15, 99_999));
        due(0, x.water(2, 0, 3, 99));
        due(0, x.water(2, 0, 0, 99));
        due(77, x.water(2, 0, 4, 77));
        due(0, x.water(2, 0, 7, 0));
        due(999, x.water(0, 1, 1, 99_999));
        bad(() -> x.water(0, 0, 16, 1));
        bad(() -> x.water(0, 0, -1, 1));
        bad(() -> x.water(0, 0, 1, -1));
        bad(() -> x.water(0, 0, 1, 100_000));
        missing(() -> x.water(4, 0, 1, 1));
        missing(() -> x.water(0, 2, 99, 1));
        begin(24, "size 8 1;pan 7 0 5 0;");
        due(5, x.water(7, 0, 255, 9));
        bad(() -> x.water(0, 0, 256, 1));
        work("again 11[let 0 0 909;];");
        due(9_999, x.water(0, 0, 1, 9_999));
        due(9_999, x.water(0, 0, 1, 10_000));
        due(9_998, x.water(0, 0, 1, 9_998));
    }

    // ---- 25 to 35 ----

    private static void strongest() {
        begin(25, SALTWORKS);
        due(12, x.strongest(0));
        due(1_000, x.strongest(1));
        bad(() -> x.strongest(2));
        bad(() -> x.strongest(-1));
        begin(25, "pan 2 1 20 10;pan 1 2 40 20;pan 0 0 21 10;pan 3 3 9 0;");
        due(12, x.strongest(0));
        due(333, x.strongest(1));
        begin(25, "pan 2 1 20 0;heap 0 0 9;");
        due(-1, x.strongest(0));
        due(-1, x.strongest(1));
        begin(25, "pan 2 1 999 0;");
        work("let 2 1 8;let 2 1 999;let 2 1 999;");
        due(12, x.strongest(0));
        // salt 1 + 124 + 124 = 249, brine 3,005
        due(76, x.strongest(1));
        begin(25, "pan 1 1 999 1;");
        work("rain 99;");
        due(11, x.strongest(0));
        due(0, x.strongest(1));
    }

    private static void greatest() {
        begin(26, SALTWORKS);
        due(11, x.greatest(0));
        due(120, x.greatest(1));
        bad(() -> x.greatest(2));
        bad(() -> x.greatest(-1));
        begin(26, "heap 3 0 4;heap 2 1 5;heap 1 2 5;");
        due(12, x.greatest(0));
        due(5, x.greatest(1));
        begin(26);
        due(-1, x.greatest(0));
        due(-1, x.greatest(1));
    }

    private static void cast() {
        begin(27, SALTWORKS);
        due(1, x.cast(1, 1, 0));
        due(1, x.cast(1, 1, 1));
        due(0, x.cast(1, 1, 2));
        due(0, x.cast(0, 0, 0));
        missing(() -> x.cast(3, 0, 0));
        missing(() -> x.cast(0, 0, 3));
        missing(() -> x.cast(0, 0, -1));
        begin(27, "size 8 8;hour 7 40;hour 3 10;hour 2 3;heap 0 0 999;heap 7 7 450;heap 4 4 150;heap 6 6 9;");
        due(7, x.cast(0, 0, 0));
        due(0, x.cast(0, 0, 1));
        due(7, x.cast(7, 7, 1));
        due(3, x.cast(4, 4, 0));
        due(4, x.cast(4, 4, 1));
        due(1, x.cast(4, 4, 2));
        due(1, x.cast(6, 6, 0));
        due(0, x.cast(6, 6, 2));
    }

    private static void ready() {
        begin(28, SALTWORKS);
        due(4, x.ready(2, 0, 1));
        due(4, x.ready(1, 1, 1));
        due(0, x.ready(1, 0, 1));
        due(0, x.ready(0, 0, 1));
        due(0, x.ready(2, 1, 1));
        due(0, x.ready(2, 0, 0));
        missing(() -> x.ready(0, 0, 2));
        missing(() -> x.ready(0, 0, -1));
        missing(() -> x.ready(3, 0, 0));
        begin(28, "size 8 2;pan 0 0 0 9;pan 7 0 0 1;pan 3 0 1 9;pan 4 0 1 0;heap 5 0 9;pan 6 1 0 5;");
        due(129, x.ready(0, 1, 0));
        due(129, x.ready(5, 0, 0));
        due(64, x.ready(5, 0, 1));
        due(0, x.ready(6, 1, 0));
    }

    private static void line() {
        begin(29, SALTWORKS);
        due(130, x.line(0, 0));
        due(0, x.line(1, 0));
        due(100, x.line(0, 1));
        due(30, x.line(1, 1));
        due(30, x.line(0, 2));
        due(50, x.line(1, 2));
        due(20, x.line(0, 3));
        due(50, x.line(2, 3));
        bad(() -> x.line(2, 0));
        bad(() -> x.line(3, 1));
        bad(() -> x.line(2, 2));
        bad(() -> x.line(3, 3));
        bad(() -> x.line(-1, 0));
        bad(() -> x.line(-1, 1));
        bad(() -> x.line(0, 4));
        bad(() -> x.line(0, -1));
    }

    private static void dryland() {
        begin(30, SALTWORKS);
        due(4, x.dryland(0, 1));
        due(4, x.dryland(1, 1));
        due(0, x.dryland(0, 0));
        missing(() -> x.dryland(3, 0));
        missing(() -> x.dryland(0, -1));
        begin(30, "size 3 3;pan 1 0 1 0;pan 0 1 1 0;pan 2 1 1 0;pan 1 2 1 0;");
        due(1, x.dryland(0, 0));
        due(1, x.dryland(1, 1));
        begin(30, "size 8 8;" + wall(1, 0, 7) + wall(3, 1, 8) + wall(5, 0, 7) + wall(7, 1, 8));
        due(36, x.dryland(0, 0));
        due(36, x.dryland(0, 7));
        begin(30, "size 8 8;pan 6 0 1 0;pan 7 1 1 0;pan 0 2 1 0;pan 1 1 1 0;pan 0 0 1 0;");
        due(1, x.dryland(7, 0));
        due(1, x.dryland(0, 1));
        due(57, x.dryland(7, 7));
    }

    private static void mounds() {
        begin(31, SALTWORKS);
        due(2, x.mounds(1));
        due(0, x.mounds(0));
        missing(() -> x.mounds(2));
        missing(() -> x.mounds(-1));
        begin(31, "size 8 8;heap 0 7 1;heap 7 7 1;heap 3 7 1;heap 7 6 1;");
        due(137, x.mounds(7));
        due(128, x.mounds(6));
    }

    private static void loss() {
        begin(32, SALTWORKS);
        due(24, x.loss(0));
        due(30, x.loss(1));
        due(20, x.loss(2));
        missing(() -> x.loss(3));
        missing(() -> x.loss(-1));
        begin(32, "size 3 1;hour 2 10;hour 6 10;pan 0 0 5 0;pan 2 0 100 0;heap 1 0 9;");
        due(12, x.loss(0));
        due(5, x.loss(1));
        law("brine/10+hour");
        due(10, x.loss(0));
        due(1, x.loss(1));
    }

    private static void nearest() {
        begin(33, SALTWORKS);
        due(11, x.nearest(0, 0));
        due(11, x.nearest(1, 1));
        missing(() -> x.nearest(3, 0));
        missing(() -> x.nearest(0, -1));
        begin(33, "size 8 8;heap 0 7 9;heap 7 0 9;heap 4 4 9;");
        due(70, x.nearest(0, 7));
        due(7, x.nearest(7, 1));
        due(7, x.nearest(0, 0));
        due(44, x.nearest(2, 2));
        due(7, x.nearest(5, 1));
        begin(33);
        due(-1, x.nearest(0, 0));
    }

    private static void poured() {
        begin(34, SALTWORKS);
        due(142, x.poured(0, 0, 80));
        due(-1, x.poured(1, 1, 5));
        due(0, x.poured(2, 0, 7));
        due(111, x.poured(2, 0, 8));
        due(130, x.told(5));
        bad(() -> x.poured(0, 0, 0));
        bad(() -> x.poured(0, 0, 1_000));
        missing(() -> x.poured(3, 0, 0));
        missing(() -> x.poured(0, 2, 1));
        work("again 10[let 2 0 999;];");
        due(110, x.poured(2, 0, 9));
        due(-1, x.poured(2, 0, 10));
    }

    private static void noon() {
        begin(35, SALTWORKS);
        due(1, x.noon(0));
        due(30, x.noon(1));
        bad(() -> x.noon(2));
        bad(() -> x.noon(-1));
        begin(35, "hour 0 0;hour 1 4;hour 2 4;pan 0 0 500 0;");
        due(1, x.noon(0));
        due(11, x.noon(1));
        begin(35, "hour 0 0;hour 1 4;hour 2 4;");
        due(0, x.noon(0));
        due(0, x.noon(1));
        begin(35, "pan 0 0 500 0;");
        due(-1, x.noon(0));
        due(-1, x.noon(1));
    }

    // ---- 36 and 37 ----

    // By the seed 0 are drawn 0, 21468, 9988, 22117, 3498, 16927, 16045, 19741, ...; by 1: 16838, 5758, 10113, 17515, ...
    private static void summer() {
        begin(36, "size 1 1;heap 0 0 70;");
        due(70, x.summer(5, 1, 0, 2));
        due(1, x.summer(5, 1, 0, 3));
        due(0, x.summer(5, 1, 16, 2));
        due(0, x.told(8));
        due(70, x.told(7));
        begin(36, "size 1 1;");
        // 9988 by 16 leaves 4; 22117 by 99 leaves 40
        due(41, x.summer(0, 1, 16, 0));
        due(41, x.summer(0, 1, 5, 0));
        due(0, x.summer(0, 1, 4, 0));
        due(5, x.summer(0, 1, 5, 1));
        due(0, x.summer(0, 1, 5, 3));
        // then 16045 by 16 leaves 13, 19741 by 99 leaves 40 (the two between are for x and y)
        due(82, x.summer(0, 2, 14, 0));
        due(41, x.summer(0, 2, 13, 0));
        begin(36, "size 8 8;heap 2 6 9;heap 6 2 5;hour 0 0;");
        // seed 1: x 16838 by 8 leaves 6, y 5758 by 8 leaves 6; 10113 by 16 leaves 1; 17515 by 99 leaves 91
        due(82, x.summer(1, 1, 16, 0));
        due(11, x.summer(1, 1, 16, 1));
        due(61, x.summer(1, 1, 16, 3));
        begin(36, "size 7 3;heap 3 1 9;");
        // 16838 by 7 leaves 3, 5758 by 3 leaves 1
        due(9, x.summer(1, 1, 1, 2));
        due(0, x.summer(1, 1, 2, 2));
        bad(() -> x.summer(0, 0, 0, 0));
        bad(() -> x.summer(0, 97, 0, 0));
        bad(() -> x.summer(0, 1, 17, 0));
        bad(() -> x.summer(0, 1, -1, 0));
        bad(() -> x.summer(0, 1, 0, 4));
        bad(() -> x.summer(0, 1, 0, -1));
        due(9, x.told(7));
        // the most that let 9,999 allows stands in a summer, too
        begin(36, "size 1 1;pan 0 0 999 0;");
        work("again 9[let 0 0 999;];");
        due(9_990, x.summer(0, 1, 5, 0));
    }

    private static void span() {
        begin(37, "size 1 1;");
        // by one turn the seed 0 brings 41, the seed 1 (17515 by 99 leaves 91) 92
        due(41, x.span(0, 2, 1, 16, 0, 0, 0));
        due(92, x.span(0, 2, 1, 16, 1, 0, 0));
        due(0, x.span(0, 2, 1, 16, 2, 0, 0));
        // 4 and 1 are left by 16: below 2 only by the seed 1
        due(0, x.span(0, 2, 1, 2, 0, 0, 0));
        due(92, x.span(0, 2, 1, 2, 1, 0, 0));
        due(1, x.span(0, 2, 1, 2, 2, 0, 0));
        due(2, x.span(0, 2, 1, 0, 2, 0, 0));
        due(41, x.span(0, 1, 1, 16, 1, 0, 0));
        due(x.summer(-1, 1, 16, 0), x.span(-1, 1, 1, 16, 0, 0, 0));
        due(Math.max(x.summer(Integer.MAX_VALUE, 9, 16, 0), x.summer(Integer.MIN_VALUE, 9, 16, 0)),
            x.span(Integer.MAX_VALUE, 2, 9, 16, 1, 0, 0));
        bad(() -> x.span(0, 0, 1, 0, 0, 0, 0));
        bad(() -> x.span(0, 11, 1, 0, 0, 0, 0));
        bad(() -> x.span(0, 1, 0, 0, 0, 0, 0));
        bad(() -> x.span(0, 1, 97, 0, 0, 0, 0));
        bad(() -> x.span(0, 1, 1, -1, 0, 0, 0));
        bad(() -> x.span(0, 1, 1, 17, 0, 0, 0));
        bad(() -> x.span(0, 1, 1, 0, -1, 0, 0));
        bad(() -> x.span(0, 1, 1, 0, 3, 0, 0));
        missing(() -> x.span(0, 1, 1, 0, 0, 1, 0));
        missing(() -> x.span(0, 1, 1, 0, 1, 0, 1));
        missing(() -> x.span(0, 1, 1, 0, 2, -1, 0));
        missing(() -> x.span(0, 99, 1, 0, 2, -1, 0));
    }

    // ---- 38 to 41 ----

    private static void imageAndRestore() {
        begin(38, SALTWORKS);
        due(-1, x.restore());
        due(1, work("hour;cart 0 0;"));
        due(1, x.image());
        due(1, x.told(10));
        due(2, work("cart 1 1;let 0 0 9;"));
        due(2, x.image());
        due(1, x.undo());
        due(0, x.undo());
        due(3, x.image());
        due(-1, x.image());
        due(3, x.count(0));
        law("3");
        book("0 0 3;");
        due(1, work("rain 5;cart 0 0;"));
        begin39();
    }

    private static void begin39() {
        promise = 39;
        due(2, x.restore());
        due(0, x.told(10));
        due(0, x.count(2));
        due(130, x.told(5));
        due(0, x.told(4));
        // law and book are none of what work changes
        due(3, x.dries(0, 0, 0));
        due(1, x.told(9));
        due(0, work("cart 0 0;"));
        due(1, x.restore());
        due(2, x.count(2));
        due(120, x.told(8));
        due(0, x.told(11));
        due(0, x.shade(1, 1));
        due(115, x.told(5));
        due(2, work("rain 1;rain 1;"));
        due(2, x.undo());
        due(1, x.undo());
        due(106, x.told(5));
        due(120, x.told(7));
        due(6, x.shade(1, 1));
        due(0, x.undo());
        due(0, x.told(4));
        due(0, x.restore());
        due(1, x.count(2));
        due(1, x.told(4));
        due(0, x.undo());
        due(130, x.told(5));
        due(-1, x.restore());
        due(1, x.image());
        due(3, works(SALTWORKS));
        due(-1, x.restore());
    }

    private static void status() {
        begin(40);
        due(0, x.status(0));
        due(0, x.status(1));
        missing(() -> x.pan(9, 9, 9));
        missing(() -> x.pan(9, 9, 0));
        bad(() -> x.told(99));
        x.image();
        bad(() -> x.law(99));
        due(0, x.restore());
        due(2, x.status(0));
        due(2, x.status(1));
        works(SALTWORKS);
        works("?");
        x.undo();
        due(2, x.status(0));
        due(2, x.status(1));
        due(-1, x.status(2));
        due(-1, x.status(-1));
        due(-1, x.status(Integer.MAX_VALUE));
        due(2, x.status(1));
    }

    private static void count() {
        begin(41);
        put("size 3 2;");
        due(20, x.count(1));
        put("size 3 2;size 3 2;size 3 2;");
        due(60, x.count(1));
        x.works(0);
        due(0, x.count(1));
        work("");
        work("");
        x.image();
        due(1, x.count(0));
        due(2, x.count(2));
        due(-1, x.count(3));
        due(-1, x.count(-1));
    }
}
