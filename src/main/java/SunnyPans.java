import java.util.NoSuchElementException;

/** A salt works whose heaps lay shadows on its pans; ../shared/DOC.md says what each call answers. */
public final class SunnyPans {
    public static final int NONE = -1;

    // A place is told by one number, ROW times its y and its x, so that "by y, then x" is "by number"
    // and that the places of a works are the bits of one long.
    private static final int ROW = 8;
    private static final int PLACES = 64;
    private static final long NOT_LAST_COLUMN = 0x7f7f7f7f7f7f7f7fL;

    private static final int MOST_TAPE = 600;
    private static final int MOST_LAW = 150;
    private static final int MOST_WORK = 150;
    private static final int MOST_BOOK = 60;
    private static final int MOST_CLAUSES = 60;
    private static final int MOST_HOURS = 10;
    private static final int MOST_REACH = 40;
    private static final int MOST_TOLD = 999;
    private static final int MOST_LINES = 8;
    private static final int MOST_OPEN = 6;
    private static final int MOST_BEGUN = 200;
    private static final int MOST_KEPT = 16;
    private static final int MOST_IMAGES = 3;
    private static final int MOST_HELD = 9_999;
    private static final int MOST_DRIES = 99;
    private static final int MOST_RAIN = 99;
    private static final int MOST_AGAIN = 60;
    private static final int LAST_DAY = 400;
    private static final int MOST_AHEAD = 500;
    private static final int MOST_SUMMER = 96;
    private static final int CHANCES = 16;
    private static final int MOST_SEEDS = 10;
    private static final int MOST_WATER = 99_999;

    // Far above what any run can need: it only makes the end of a loop plain.
    private static final int MOST_TURNS = 1_000_000;

    private static final int CANT_STAND = 1;
    private static final int NO_SUCH_NUMBER = 2;
    private static final int TOO_MANY = 3;
    private static final int FAULT_LESS = 10;
    private static final int TOO_MANY_WORKS = -20;

    private static final int LET = 0;
    private static final int RAKE = 1;
    private static final int CART = 2;
    private static final int RAIN = 3;
    private static final int HOUR = 4;
    private static final int AGAIN = 5;
    private static final int CLOSE = 6;

    // How far to the east and to the south the next place towards each side lies.
    private static final int[] EAST = {0, 1, 1, 1, 0, -1, -1, -1};
    private static final int[] SOUTH = {-1, -1, 0, 1, 1, 1, 0, -1};

    private final Text tape = new Text();
    private final Stand stand = new Stand();
    private final Stand[] images = new Stand[MOST_IMAGES];
    private final Job job = new Job();
    private final Pans trial = new Pans();
    private final Shadows shadows = new Shadows();
    private final Best best = new Best();
    private final int[] seen = new int[PLACES];

    // A text is read into the spare one of each two, so that a fault leaves the other as it was.
    private Plan plan = new Plan();
    private Plan sparePlan = new Plan();
    private Law rule = new Law();
    private Law spareRule = new Law();
    private Book notes = new Book();
    private Book spareNotes = new Book();

    private int imageCount;
    private int refusedSteps;
    private int refusedPlaces;
    private int refusedArguments;
    private int seedNow;

    public SunnyPans() {
        for (int i = 0; i < MOST_IMAGES; i++) {
            images[i] = new Stand();
        }
    }

    // ---- texts ----

    public int feed(int a, int b, int c, int d, int e) {
        if (tape.size + 20 > MOST_TAPE) {
            return NONE;
        }
        tape.add(a);
        tape.add(b);
        tape.add(c);
        tape.add(d);
        tape.add(e);
        return tape.size;
    }

    public int works(int n) throws IllegalArgumentException {
        needText(n, MOST_TAPE);
        tape.open(n);
        sparePlan.read(tape);
        if (tape.fault != 0) {
            return tape.fault - FAULT_LESS;
        }
        Plan read = sparePlan;
        sparePlan = plan;
        plan = read;
        rule.reset();
        notes.clear();
        stand.start(plan);
        imageCount = 0;
        refusedSteps = 0;
        return plan.hours;
    }

    public int law(int n) throws IllegalArgumentException {
        needText(n, MOST_LAW);
        tape.open(n);
        spareRule.read(tape);
        if (tape.fault != 0) {
            return tape.fault - FAULT_LESS;
        }
        Law read = spareRule;
        spareRule = rule;
        rule = read;
        return 1;
    }

    public int work(int n) throws IllegalArgumentException {
        needText(n, MOST_WORK);
        if (stand.kept >= MOST_KEPT) {
            tape.open(0);
            return TOO_MANY_WORKS;
        }
        tape.open(n);
        job.read(tape, plan);
        if (tape.fault != 0) {
            return tape.fault - FAULT_LESS;
        }
        stand.keep();
        return doJob();
    }

    public int book(int n) throws IllegalArgumentException {
        needText(n, MOST_BOOK);
        tape.open(n);
        spareNotes.read(tape, plan);
        if (tape.fault != 0) {
            return tape.fault - FAULT_LESS;
        }
        Book read = spareNotes;
        spareNotes = notes;
        notes = read;
        return notes.lines;
    }

    public int fault() {
        return tape.faultPlace;
    }

    public int undo() {
        if (!stand.takeBack()) {
            return -1;
        }
        refusedSteps = 0;
        return stand.kept;
    }

    // ---- what is ----

    public int told(int what) throws IllegalArgumentException {
        need(what >= 0 && what <= 12);
        Pans now = stand.now;
        switch (what) {
            case 0: return plan.wide;
            case 1: return plan.high;
            case 2: return plan.hours;
            case 3: return now.day;
            case 4: return plan.hours == 0 ? NONE : now.next;
            case 5: return sumOf(now.brine);
            case 6: return sumOf(now.salt);
            case 7: return sumOf(now.grams);
            case 8: return now.store;
            case 9: return notes.lines;
            case 10: return refusedSteps;
            case 11: return Long.bitCount(now.heapPlaces());
            default: return Long.bitCount(plan.places & now.dryPlaces() & now.saltPlaces());
        }
    }

    public int pan(int x, int y, int what) throws NoSuchElementException, IllegalArgumentException {
        needPlace(x, y);
        need(what >= 0 && what <= 6);
        Pans now = stand.now;
        int p = placeOf(x, y);
        switch (what) {
            case 0: return now.brine[p];
            case 1: return now.salt[p];
            case 2: return strengthOf(now.salt[p], now.brine[p]);
            case 3: return now.grams[p];
            case 4: return heightOf(now.grams[p]);
            case 5: return sunOf(p);
            default: return plan.hours > 0 && has(shadeNow(now.next), p) ? 1 : 0;
        }
    }

    public int hour(int hour, int what) throws NoSuchElementException, IllegalArgumentException {
        needHour(hour);
        need(what >= 0 && what <= 2);
        if (what == 0) {
            return plan.side[hour];
        }
        return what == 1 ? plan.reach[hour] : Long.bitCount(shadeNow(hour));
    }

    public int shade(int hour, int y) throws NoSuchElementException {
        needHour(hour);
        needRow(y);
        return rowOf(shadeNow(hour), y);
    }

    public int dries(int x, int y, int hour) throws NoSuchElementException {
        needPlace(x, y);
        needHour(hour);
        Pans now = stand.now;
        int p = placeOf(x, y);
        int reach = plan.reach[hour];
        return rule.rate(now.brine[p], now.salt[p], reach, plan.side[hour], hour, now.day, p);
    }

    public int would(int brine, int salt, int reach, int side, int hour, int day, int col, int row)
            throws IllegalArgumentException {
        need(within(brine, 0, MOST_HELD) && within(salt, 0, MOST_HELD));
        need(within(reach, 0, MOST_REACH) && within(side, 0, 7));
        need(within(hour, 0, MOST_HOURS - 1) && within(day, 0, LAST_DAY));
        need(within(col, 0, ROW - 1) && within(row, 0, ROW - 1));
        return rule.rate(brine, salt, reach, side, hour, day, placeOf(col, row));
    }

    public int strongest(int what) throws IllegalArgumentException {
        need(what == 0 || what == 1);
        Pans now = stand.now;
        best.clear();
        for (int p = 0; p < PLACES; p++) {
            if (now.salt[p] > 0) {
                best.offerMost(p, strengthOf(now.salt[p], now.brine[p]));
            }
        }
        return best.placeOrAmount(what);
    }

    public int greatest(int what) throws IllegalArgumentException {
        need(what == 0 || what == 1);
        best.clear();
        for (int p = 0; p < PLACES; p++) {
            if (stand.now.grams[p] > 0) {
                best.offerMost(p, stand.now.grams[p]);
            }
        }
        return best.placeOrAmount(what);
    }

    public int cast(int x, int y, int hour) throws NoSuchElementException {
        needPlace(x, y);
        needHour(hour);
        int p = placeOf(x, y);
        int grams = stand.now.grams[p];
        return grams > 0 ? Long.bitCount(plan.shadedBy(p, grams, hour)) - 1 : 0;
    }

    public int ready(int x, int y, int row) throws NoSuchElementException {
        needPlace(x, y);
        needRow(row);
        int bits = 0;
        for (int u = 0; u < plan.wide; u++) {
            if (stand.now.canScrape(placeOf(u, row), placeOf(x, y))) {
                bits |= 1 << u;
            }
        }
        return bits;
    }

    public int line(int k, int what) throws IllegalArgumentException {
        need(what >= 0 && what <= 3);
        boolean isRow = what == 0 || what == 2;
        need(within(k, 0, (isRow ? plan.high : plan.wide) - 1));
        int[] held = what <= 1 ? stand.now.brine : stand.now.salt;
        int sum = 0;
        for (int i = 0; i < ROW; i++) {
            sum += held[isRow ? placeOf(i, k) : placeOf(k, i)];
        }
        return sum;
    }

    public int mounds(int y) throws NoSuchElementException {
        needRow(y);
        return rowOf(stand.now.heapPlaces(), y);
    }

    public int nearest(int x, int y) throws NoSuchElementException {
        needPlace(x, y);
        best.clear();
        for (int p = 0; p < PLACES; p++) {
            if (stand.now.grams[p] > 0) {
                best.offerLeast(p, Math.abs(p % ROW - x) + Math.abs(p / ROW - y));
            }
        }
        return best.placeOrAmount(0);
    }

    public int poured(int x, int y, int n) throws NoSuchElementException, IllegalArgumentException {
        needPlace(x, y);
        need(within(n, 1, MOST_TOLD));
        Pans now = stand.now;
        int p = placeOf(x, y);
        return now.canPour(p, n) ? strengthOf(now.salt[p] + n / 8, now.brine[p] + n) : NONE;
    }

    public int water(int x, int y, int pans, int n) throws NoSuchElementException, IllegalArgumentException {
        needPlace(x, y);
        need(within(pans, 0, (1 << plan.wide) - 1) && within(n, 0, MOST_WATER));
        if ((pans >> x & 1) == 0) {
            return 0;
        }
        int bound = 0;
        for (int more = 8_192; more > 0; more /= 2) {
            if (givenOf(y, pans, bound + more) <= n) {
                bound += more;
            }
        }
        return Math.min(stand.now.brine[placeOf(x, y)], bound);
    }

    private int givenOf(int y, int pans, int bound) {
        int given = 0;
        for (int x = 0; x < plan.wide; x++) {
            if ((pans >> x & 1) != 0) {
                given += Math.min(stand.now.brine[placeOf(x, y)], bound);
            }
        }
        return given;
    }

    // ---- ways ----

    public int way(int x, int y, int u, int v) throws NoSuchElementException {
        needPlace(x, y);
        needPlace(u, v);
        long open = plan.places & ~stand.now.brinePlaces();
        long reached = bit(placeOf(x, y)) & open;
        for (int steps = 0; steps < PLACES; steps++) {
            if (has(reached, placeOf(u, v))) {
                return steps;
            }
            reached = spread(reached, open);
        }
        return NONE;
    }

    public int dryland(int x, int y) throws NoSuchElementException {
        needPlace(x, y);
        long open = plan.places & ~stand.now.brinePlaces();
        long reached = bit(placeOf(x, y)) & open;
        for (int steps = 0; steps < PLACES; steps++) {
            reached = spread(reached, open);
        }
        return Long.bitCount(reached);
    }

    private static long spread(long reached, long open) {
        long west = reached >>> 1 & NOT_LAST_COLUMN;
        long east = (reached & NOT_LAST_COLUMN) << 1;
        return (reached | west | east | reached >>> ROW | reached << ROW) & open;
    }

    // ---- hours to come ----

    public int ahead(int n, int what) throws IllegalArgumentException {
        need(within(n, 0, MOST_AHEAD) && within(what, 0, 2));
        trial.copyFrom(stand.now);
        for (int gone = 0; gone < n && plan.hours > 0; gone++) {
            passHour(trial);
        }
        if (what == 0) {
            return sumOf(trial.brine);
        }
        return what == 1 ? Long.bitCount(plan.places & trial.dryPlaces()) : trial.day;
    }

    public int drying(int x, int y) throws NoSuchElementException {
        needPlace(x, y);
        return dryingOf(placeOf(x, y), MOST_AHEAD);
    }

    public int first(int what) throws IllegalArgumentException {
        need(what == 0 || what == 1);
        best.clear();
        int most = MOST_AHEAD;
        for (int p = 0; p < PLACES; p++) {
            int hours = stand.now.brine[p] > 0 ? dryingOf(p, most) : NONE;
            if (hours != NONE) {
                best.offerLeast(p, hours);
                // A later pan counts only if it is dry sooner, so no more hours need be tried.
                most = hours - 1;
            }
        }
        return best.placeOrAmount(what);
    }

    public int loss(int hour) throws NoSuchElementException {
        needHour(hour);
        return lossBy(hour);
    }

    public int noon(int what) throws IllegalArgumentException {
        need(what == 0 || what == 1);
        best.clear();
        for (int hour = 0; hour < plan.hours; hour++) {
            best.offerMost(hour, lossBy(hour));
        }
        return what == 0 ? best.found : best.amount;
    }

    private int lossBy(int hour) {
        Pans now = stand.now;
        int lost = 0;
        for (int p = 0; p < PLACES; p++) {
            lost += lossOf(now, p, now.brine[p], hour, now.day);
        }
        return lost;
    }

    private int dryingOf(int p, int most) {
        Pans now = stand.now;
        int brine = now.brine[p];
        if (now.grams[p] > 0) {
            return NONE;
        }
        if (brine == 0) {
            return 0;
        }
        int hour = now.next;
        int day = now.day;
        for (int gone = 1; gone <= most && plan.hours > 0; gone++) {
            brine -= lossOf(now, p, brine, hour, day);
            if (brine == 0) {
                return gone;
            }
            hour++;
            if (hour >= plan.hours) {
                hour = 0;
                day++;
            }
        }
        return NONE;
    }

    private int lossOf(Pans pans, int p, int brine, int hour, int day) {
        if (brine == 0 || hour < 0 || hour >= plan.hours || has(pans.shadeAt(hour), p)) {
            return 0;
        }
        int reach = plan.reach[hour];
        return Math.min(brine, rule.rate(brine, pans.salt[p], reach, plan.side[hour], hour, day, p));
    }

    private void passHour(Pans pans) {
        for (int p = 0; p < PLACES; p++) {
            pans.brine[p] -= lossOf(pans, p, pans.brine[p], pans.next, pans.day);
        }
        pans.next++;
        if (pans.next >= plan.hours) {
            pans.next = 0;
            pans.day++;
        }
    }

    // ---- heaps that might be ----

    public int site(int z, int what) throws IllegalArgumentException {
        need(within(z, 1, MOST_TOLD) && within(what, 0, 1));
        long free = layEverywhere(z);
        best.clear();
        for (int p = 0; p < PLACES; p++) {
            if (has(free, p)) {
                best.offerLeast(p, shadows.together(p, p, plan.hours));
            }
        }
        return best.placeOrAmount(what);
    }

    public int pair(int z, int what) throws IllegalArgumentException {
        need(within(z, 1, MOST_TOLD) && within(what, 0, 2));
        long free = layEverywhere(z);
        best.clear();
        for (int p = 0; p < PLACES; p++) {
            for (int q = p + 1; q < PLACES && has(free, p); q++) {
                if (has(free, q)) {
                    best.offerLeast(p * PLACES + q, shadows.together(p, q, plan.hours));
                }
            }
        }
        if (what == 2 || best.found == NONE) {
            return best.amount;
        }
        return tellPlace(what == 0 ? best.found / PLACES : best.found % PLACES);
    }

    public int relief(int what) throws IllegalArgumentException {
        need(what == 0 || what == 1);
        Pans now = stand.now;
        shadows.learnAlone(plan, now);
        best.clear();
        for (int p = 0; p < PLACES; p++) {
            if (now.grams[p] > 0) {
                best.offerMost(p, shadows.aloneBy(plan, p, now.grams[p]));
            }
        }
        return best.placeOrAmount(what);
    }

    public int fits(int z, int what) throws IllegalArgumentException {
        need(within(z, 1, MOST_TOLD) && within(what, 0, 1));
        long fitting = fittingPlaces(z);
        if (what == 0) {
            return Long.bitCount(fitting);
        }
        best.clear();
        for (int p = 0; p < PLACES && best.found == NONE; p++) {
            if (has(fitting, p)) {
                best.offerLeast(p, 0);
            }
        }
        return best.placeOrAmount(0);
    }

    public int look(int z, int what) throws IllegalArgumentException {
        need(within(z, 1, MOST_TOLD) && within(what, 0, 1));
        long fitting = fittingPlaces(z);
        long unseen = plan.places & ~notes.places;
        best.clear();
        for (int p = 0; p < PLACES; p++) {
            if (has(unseen, p)) {
                best.offerLeast(p, mostAlike(brinesSeen(p, fitting)));
            }
        }
        return best.placeOrAmount(what);
    }

    private long layEverywhere(int z) {
        long free = stand.now.freePlaces() & plan.places;
        shadows.lay(plan, stand.now, free, z);
        return free;
    }

    private long fittingPlaces(int z) {
        long free = layEverywhere(z);
        long fitting = 0;
        for (int p = 0; p < PLACES; p++) {
            if (has(free, p) && linesRight(p)) {
                fitting |= bit(p);
            }
        }
        return fitting;
    }

    private boolean linesRight(int site) {
        for (int i = 0; i < notes.lines && i < MOST_LINES; i++) {
            if (brineAfterDay(notes.place[i], site) != notes.brine[i]) {
                return false;
            }
        }
        return true;
    }

    private int brineAfterDay(int p, int site) {
        Pans now = stand.now;
        int brine = now.brine[p];
        int hour = now.next;
        int day = now.day;
        for (int gone = 0; gone < plan.hours && brine > 0; gone++) {
            if (!has(shadows.addedAt(site, hour), p)) {
                brine -= lossOf(now, p, brine, hour, day);
            }
            hour++;
            if (hour >= plan.hours) {
                hour = 0;
                day++;
            }
        }
        return brine;
    }

    /** Puts what the pan would hold for each fitting place into seen; answers how many these are. */
    private int brinesSeen(int p, long fitting) {
        int size = 0;
        // A heap that lays no shadow here changes nothing here, so one day tells for all of those.
        int unshaded = NONE;
        for (int site = 0; site < PLACES; site++) {
            if (!has(fitting, site)) {
                continue;
            }
            if (has(shadows.touchedBy(site), p)) {
                seen[size] = brineAfterDay(p, site);
            } else {
                unshaded = unshaded == NONE ? brineAfterDay(p, site) : unshaded;
                seen[size] = unshaded;
            }
            size++;
        }
        return size;
    }

    private int mostAlike(int size) {
        int most = 0;
        for (int i = 0; i < size; i++) {
            int alike = 0;
            for (int j = i; j < size; j++) {
                alike += seen[i] == seen[j] ? 1 : 0;
            }
            most = Math.max(most, alike);
        }
        return most;
    }

    // ---- summers ----

    public int summer(int seed, int hours, int q, int what) throws IllegalArgumentException {
        need(within(hours, 1, MOST_SUMMER) && within(q, 0, CHANCES) && within(what, 0, 3));
        runSummer(seed, hours, q);
        switch (what) {
            case 0: return sumOf(trial.brine);
            case 1: return sumOf(trial.salt);
            case 2: return trial.store;
            default: return Long.bitCount(plan.places & trial.dryPlaces());
        }
    }

    public int span(int seed, int many, int hours, int q, int what, int x, int y)
            throws NoSuchElementException, IllegalArgumentException {
        needPlace(x, y);
        need(within(many, 1, MOST_SEEDS) && within(hours, 1, MOST_SUMMER));
        need(within(q, 0, CHANCES) && within(what, 0, 2));
        best.clear();
        int dry = 0;
        for (int i = 0; i < many; i++) {
            runSummer(seed + i, hours, q);
            if (what == 0) {
                best.offerLeast(i, sumOf(trial.brine));
            } else {
                best.offerMost(i, sumOf(trial.brine));
            }
            dry += has(trial.dryPlaces(), placeOf(x, y)) ? 1 : 0;
        }
        return what == 2 ? dry : best.amount;
    }

    private void runSummer(int seed, int hours, int q) {
        trial.copyFrom(stand.now);
        seedNow = seed;
        for (int gone = 0; gone < hours; gone++) {
            int x = draw(plan.wide);
            int y = draw(plan.high);
            if (draw(CHANCES) < q) {
                trial.pour(placeOf(x, y), 1 + draw(99));
            } else {
                trial.haul(plan, placeOf(x, y));
            }
            if (plan.hours > 0) {
                passHour(trial);
            }
        }
    }

    private int draw(int by) {
        seedNow = seedNow * 1_103_515_245 + 12_345;
        return by > 0 ? (seedNow >>> 16 & 32_767) % by : 0;
    }

    // ---- images and counts ----

    public int image() {
        if (imageCount >= MOST_IMAGES) {
            return -1;
        }
        Stand room = images[imageCount];
        if (room == null) {
            return -1;
        }
        room.copyFrom(stand);
        imageCount++;
        return imageCount;
    }

    public int restore() {
        if (imageCount <= 0) {
            return -1;
        }
        Stand latest = images[imageCount - 1];
        if (latest == null) {
            return -1;
        }
        stand.copyFrom(latest);
        imageCount--;
        refusedSteps = 0;
        return imageCount;
    }

    public int status(int what) {
        if (what == 0) {
            return refusedPlaces;
        }
        return what == 1 ? refusedArguments : NONE;
    }

    public int count(int what) {
        switch (what) {
            case 0: return imageCount;
            case 1: return tape.size;
            case 2: return stand.kept;
            default: return NONE;
        }
    }

    // ---- refusals ----

    private void needText(int n, int most) {
        need(n >= 0 && n <= most && n <= tape.size);
    }

    private void need(boolean holds) {
        if (!holds) {
            refusedArguments++;
            throw new IllegalArgumentException("no such argument");
        }
    }

    private void needPlace(int x, int y) {
        needThing(plan.holds(x, y));
    }

    private void needHour(int hour) {
        needThing(within(hour, 0, plan.hours - 1));
    }

    private void needRow(int y) {
        needThing(within(y, 0, plan.high - 1));
    }

    private void needThing(boolean there) {
        if (!there) {
            refusedPlaces++;
            throw new NoSuchElementException("no such place, hour or row");
        }
    }

    // ---- work being done ----

    private int doJob() {
        refusedSteps = 0;
        int done = 0;
        int begun = 0;
        int at = 0;
        for (int turn = 0; turn < MOST_TURNS && job.isAt(at); turn++) {
            int kind = job.kind[at];
            if (kind == CLOSE) {
                at = job.behindClose(at);
                continue;
            }
            if (begun >= MOST_BEGUN) {
                break;
            }
            begun++;
            if (kind == AGAIN) {
                at = job.behindAgain(at);
                continue;
            }
            if (doStep(kind, job.place[at], job.other[at], job.amount[at])) {
                done++;
            } else {
                refusedSteps++;
            }
            at++;
        }
        return done;
    }

    private boolean doStep(int kind, int place, int other, int amount) {
        Pans now = stand.now;
        switch (kind) {
            case LET:
                return now.pour(place, amount);
            case RAKE:
                return now.scrape(plan, place, other);
            case CART:
                return now.haul(plan, place);
            case RAIN:
                now.wet(plan, amount);
                return true;
            default:
                if (plan.hours == 0 || now.day >= LAST_DAY) {
                    return false;
                }
                passHour(now);
                return true;
        }
    }

    // ---- small things ----

    private int sunOf(int p) {
        int sun = 0;
        for (int hour = 0; hour < plan.hours; hour++) {
            sun += has(shadeNow(hour), p) ? 0 : 1;
        }
        return sun;
    }

    private long shadeNow(int hour) {
        return stand.now.shadeAt(hour);
    }

    private static int placeOf(int x, int y) {
        return y * ROW + x;
    }

    private static int tellPlace(int p) {
        return p / ROW * 10 + p % ROW;
    }

    private static long bit(int p) {
        return 1L << p;
    }

    private static boolean has(long places, int p) {
        return (places >>> p & 1) != 0;
    }

    private static int rowOf(long places, int y) {
        return (int) (places >>> y * ROW & 255);
    }

    private static boolean within(int n, int least, int most) {
        return n >= least && n <= most;
    }

    private static int heightOf(int grams) {
        return grams > 0 ? grams / 50 + 1 : 0;
    }

    private static int strengthOf(int salt, int brine) {
        int both = salt + brine;
        return both > 0 ? 1_000 * salt / both : 0;
    }

    private static int sumOf(int[] held) {
        int sum = 0;
        for (int i = 0; i < held.length; i++) {
            sum += held[i];
        }
        return sum;
    }

    private static long placesOver0(int[] held) {
        long places = 0;
        for (int p = 0; p < held.length && p < PLACES; p++) {
            if (held[p] > 0) {
                places |= bit(p);
            }
        }
        return places;
    }

    /** The best of what is offered; of alike ones the first. */
    private static final class Best {
        int found = NONE;
        int amount = NONE;

        void clear() {
            found = NONE;
            amount = NONE;
        }

        void offerLeast(int what, int much) {
            if (found == NONE || much < amount) {
                found = what;
                amount = much;
            }
        }

        void offerMost(int what, int much) {
            if (found == NONE || much > amount) {
                found = what;
                amount = much;
            }
        }

        int placeOrAmount(int what) {
            if (what != 0 || found == NONE) {
                return amount;
            }
            return tellPlace(found);
        }
    }

    /** The tape, and the text that is being read from it; after its first fault all reading does nothing. */
    private static final class Text {
        final int[] bytes = new int[MOST_TAPE];
        int size;
        int fault;
        int faultPlace = NONE;
        int wordFrom;
        int numberFrom;
        private int end;
        private int at;

        void add(int number) {
            for (int shift = 24; shift >= 0; shift -= 8) {
                if (size < bytes.length) {
                    bytes[size] = number >>> shift & 255;
                    size++;
                }
            }
        }

        void open(int n) {
            end = Math.max(0, Math.min(n, bytes.length));
            at = 0;
            size = 0;
            fault = 0;
            faultPlace = NONE;
        }

        void fail(int kind, int place) {
            if (fault == 0) {
                fault = kind;
                faultPlace = place;
            }
        }

        /** Faults what stands next, where nothing like it can. */
        void failHere() {
            skipBlanks();
            fail(CANT_STAND, at);
        }

        void failAtEnd() {
            fail(CANT_STAND, end);
        }

        boolean goesOn() {
            skipBlanks();
            return fault == 0 && at < end;
        }

        boolean sees(int sign) {
            skipBlanks();
            return fault == 0 && peek() == sign;
        }

        boolean seesDigit() {
            skipBlanks();
            return fault == 0 && isDigit(peek());
        }

        void sign(int sign) {
            if (sees(sign)) {
                at++;
            } else {
                fail(CANT_STAND, at);
            }
        }

        /** The number that stands next; the least one, if there is a fault. */
        int number(int least, int most) {
            if (!seesDigit()) {
                fail(CANT_STAND, at);
                return least;
            }
            numberFrom = at;
            int value = 0;
            while (at < end && isDigit(peek())) {
                value = Math.min(value * 10 + peek() - '0', 1_000_000);
                at++;
            }
            if (!within(value, least, most)) {
                fail(NO_SUCH_NUMBER, numberFrom);
                return least;
            }
            return value;
        }

        void word() {
            skipBlanks();
            wordFrom = at;
            while (at < end && isLetter(peek()) && fault == 0) {
                at++;
            }
        }

        boolean wordIs(String name) {
            if (fault != 0 || name.length() != at - wordFrom) {
                return false;
            }
            for (int i = 0; i < name.length(); i++) {
                int place = wordFrom + i;
                if (place < 0 || place >= bytes.length || bytes[place] != name.charAt(i)) {
                    return false;
                }
            }
            return true;
        }

        int place(int wide, int high) {
            int x = number(0, wide - 1);
            int y = number(0, high - 1);
            return placeOf(x, y);
        }

        int here() {
            skipBlanks();
            return at;
        }

        private void skipBlanks() {
            while (at < end && bytes[at] == ' ') {
                at++;
            }
        }

        private int peek() {
            return at < end ? bytes[at] : NONE;
        }

        private static boolean isDigit(int c) {
            return c >= '0' && c <= '9';
        }

        private static boolean isLetter(int c) {
            return c >= 'a' && c <= 'z';
        }
    }

    /** A works as it is told: its size, its hours, and what stands in it at first. */
    private static final class Plan {
        int wide = 4;
        int high = 4;
        int hours;
        long places = square(4, 4);
        final int[] side = new int[MOST_HOURS];
        final int[] reach = new int[MOST_HOURS];
        final int[] brine = new int[PLACES];
        final int[] salt = new int[PLACES];
        final int[] grams = new int[PLACES];

        void read(Text text) {
            wide = 4;
            high = 4;
            hours = 0;
            for (int p = 0; p < PLACES; p++) {
                brine[p] = 0;
                salt[p] = 0;
                grams[p] = 0;
            }
            for (int told = 0; told <= MOST_CLAUSES && text.goesOn(); told++) {
                readClause(text, told);
            }
            places = square(wide, high);
            leaveOut();
        }

        private void readClause(Text text, int told) {
            text.word();
            if (text.wordIs("size")) {
                refuseOver(text, told, MOST_CLAUSES);
                wide = text.number(1, ROW);
                high = text.number(1, ROW);
            } else if (text.wordIs("hour")) {
                refuseOver(text, told, MOST_CLAUSES);
                refuseOver(text, hours, MOST_HOURS);
                readHour(text);
            } else if (text.wordIs("pan")) {
                refuseOver(text, told, MOST_CLAUSES);
                int p = text.place(ROW, ROW);
                brine[p] = text.number(0, MOST_TOLD);
                salt[p] = text.number(0, MOST_TOLD);
            } else if (text.wordIs("heap")) {
                refuseOver(text, told, MOST_CLAUSES);
                int p = text.place(ROW, ROW);
                grams[p] = text.number(1, MOST_TOLD);
            } else {
                text.fail(CANT_STAND, text.wordFrom);
            }
            text.sign(';');
        }

        private void readHour(Text text) {
            int from = text.number(0, 7);
            int far = text.number(0, MOST_REACH);
            if (hours < MOST_HOURS) {
                side[hours] = from;
                reach[hours] = far;
                hours++;
            }
        }

        private static void refuseOver(Text text, int told, int most) {
            if (told >= most) {
                text.fail(TOO_MANY, text.wordFrom);
            }
        }

        private void leaveOut() {
            for (int p = 0; p < PLACES; p++) {
                if (!has(places, p)) {
                    grams[p] = 0;
                }
                if (!has(places, p) || grams[p] > 0) {
                    brine[p] = 0;
                    salt[p] = 0;
                }
            }
        }

        private static long square(int wide, int high) {
            long places = 0;
            for (int y = 0; y < high; y++) {
                for (int x = 0; x < wide; x++) {
                    places |= bit(placeOf(x, y));
                }
            }
            return places;
        }

        boolean holds(int x, int y) {
            return x >= 0 && x < wide && y >= 0 && y < high;
        }

        /** The places that a heap brings into shade: its own, and those that its shadow lies on. */
        long shadedBy(int place, int grams, int hour) {
            long shaded = bit(place);
            if (hour < 0 || hour >= hours) {
                return shaded;
            }
            int longest = heightOf(grams) * reach[hour] / 10;
            int x = place % ROW;
            int y = place / ROW;
            for (int k = 1; k <= longest && k < ROW; k++) {
                x -= EAST[side[hour]];
                y -= SOUTH[side[hour]];
                if (!holds(x, y)) {
                    break;
                }
                shaded |= bit(placeOf(x, y));
            }
            return shaded;
        }
    }

    /** A law, as the order in which its numbers and names come and are joined. */
    private static final class Law {
        // Below NAMES a code is a number of the law itself.
        private static final int NAMES = 1_000;
        private static final int JOINS = 1_008;
        private static final int PLUS = 1_008;
        private static final int MINUS = 1_009;
        private static final int TIMES = 1_010;
        private static final int BY = 1_011;
        private static final int REST = 1_012;
        private static final int LEAST = 1_013;
        private static final int MOST = 1_014;
        private static final int REACH = NAMES + 2;

        private final int[] code = new int[MOST_LAW];
        private final int[] stack = new int[MOST_LAW];
        private final int[] named = new int[JOINS - NAMES];
        private int size;

        Law() {
            reset();
        }

        /** The law without a text: 10 + reach / 4. */
        void reset() {
            size = 0;
            emit(10);
            emit(REACH);
            emit(4);
            emit(BY);
            emit(PLUS);
        }

        private void emit(int what) {
            if (size < code.length) {
                code[size] = what;
                size++;
            }
        }

        void read(Text text) {
            size = 0;
            readSum(text, 0);
            if (text.goesOn()) {
                text.failHere();
            }
        }

        private void readSum(Text text, int open) {
            readProduct(text, open);
            for (int turn = 0; turn < MOST_LAW; turn++) {
                int join = text.sees('+') ? PLUS : text.sees('-') ? MINUS : NONE;
                if (join == NONE) {
                    return;
                }
                text.sign(join == PLUS ? '+' : '-');
                readProduct(text, open);
                emit(join);
            }
        }

        private void readProduct(Text text, int open) {
            readUnit(text, open);
            for (int turn = 0; turn < MOST_LAW; turn++) {
                int join = text.sees('*') ? TIMES : text.sees('/') ? BY : text.sees('%') ? REST : NONE;
                if (join == NONE) {
                    return;
                }
                text.sign(join == TIMES ? '*' : join == BY ? '/' : '%');
                readUnit(text, open);
                emit(join);
            }
        }

        private void readUnit(Text text, int open) {
            if (text.seesDigit()) {
                emit(text.number(0, MOST_TOLD));
            } else if (text.sees('(')) {
                if (open >= MOST_OPEN) {
                    text.fail(TOO_MANY, text.here());
                    return;
                }
                text.sign('(');
                readSum(text, open + 1);
                text.sign(')');
            } else {
                readWord(text, open);
            }
        }

        private void readWord(Text text, int open) {
            text.word();
            if (text.wordIs("least")) {
                readTwo(text, open);
                emit(LEAST);
            } else if (text.wordIs("most")) {
                readTwo(text, open);
                emit(MOST);
            } else {
                int name = nameOf(text);
                if (name == NONE) {
                    text.fail(CANT_STAND, text.wordFrom);
                    return;
                }
                emit(NAMES + name);
            }
        }

        private void readTwo(Text text, int open) {
            if (open >= MOST_OPEN) {
                text.fail(TOO_MANY, text.wordFrom);
                return;
            }
            text.sign('[');
            readSum(text, open + 1);
            text.sign(',');
            readSum(text, open + 1);
            text.sign(']');
        }

        private static int nameOf(Text text) {
            if (text.wordIs("brine")) {
                return 0;
            }
            if (text.wordIs("salt")) {
                return 1;
            }
            if (text.wordIs("reach")) {
                return 2;
            }
            if (text.wordIs("side")) {
                return 3;
            }
            if (text.wordIs("hour")) {
                return 4;
            }
            if (text.wordIs("day")) {
                return 5;
            }
            if (text.wordIs("col")) {
                return 6;
            }
            return text.wordIs("row") ? 7 : NONE;
        }

        int rate(int brine, int salt, int reach, int side, int hour, int day, int place) {
            named[0] = brine;
            named[1] = salt;
            named[2] = reach;
            named[3] = side;
            named[4] = hour;
            named[5] = day;
            named[6] = place % ROW;
            named[7] = place / ROW;
            int top = 0;
            for (int i = 0; i < size && i < code.length; i++) {
                int what = code[i];
                if (what >= JOINS && top >= 2) {
                    top--;
                    stack[top - 1] = join(what, stack[top - 1], stack[top]);
                } else if (what < JOINS && top < stack.length) {
                    stack[top] = what >= NAMES ? named[what - NAMES] : what;
                    top++;
                }
            }
            return Math.max(0, Math.min(MOST_DRIES, stack[0]));
        }

        private static int join(int how, int a, int b) {
            switch (how) {
                case PLUS: return a + b;
                case MINUS: return a - b;
                case TIMES: return a * b;
                case BY: return b == 0 ? 0 : a / b;
                case REST: return b == 0 ? 0 : a % b;
                case LEAST: return Math.min(a, b);
                default: return Math.max(a, b);
            }
        }
    }

    /** The lines of a book. */
    private static final class Book {
        final int[] place = new int[MOST_LINES];
        final int[] brine = new int[MOST_LINES];
        int lines;
        long places;

        void clear() {
            lines = 0;
            places = 0;
        }

        void read(Text text, Plan plan) {
            clear();
            for (int turn = 0; turn <= MOST_LINES && text.goesOn(); turn++) {
                readLine(text, plan);
            }
        }

        private void readLine(Text text, Plan plan) {
            int x = text.number(0, plan.wide - 1);
            if (lines >= MOST_LINES) {
                text.fail(TOO_MANY, text.numberFrom);
                return;
            }
            int y = text.number(0, plan.high - 1);
            int p = placeOf(x, y);
            if (has(places, p)) {
                text.fail(NO_SUCH_NUMBER, text.numberFrom);
            }
            int much = text.number(0, MOST_HELD);
            text.sign(';');
            place[lines] = p;
            brine[lines] = much;
            places |= bit(p);
            lines++;
        }
    }

    /** The steps of one work in their order; the end of an again's steps stands among them as CLOSE. */
    private static final class Job {
        final int[] kind = new int[MOST_WORK];
        final int[] place = new int[MOST_WORK];
        final int[] other = new int[MOST_WORK];
        final int[] amount = new int[MOST_WORK];
        private final int[] mate = new int[MOST_WORK];
        private final int[] left = new int[MOST_WORK];
        private final int[] openAt = new int[MOST_OPEN];
        private int open;
        private int size;

        void read(Text text, Plan plan) {
            size = 0;
            open = 0;
            for (int turn = 0; turn < MOST_WORK && text.goesOn(); turn++) {
                if (open > 0 && text.sees(']')) {
                    closeAgain(text);
                } else {
                    readStep(text, plan);
                }
            }
            if (open > 0) {
                text.failAtEnd();
            }
        }

        private void readStep(Text text, Plan plan) {
            text.word();
            if (text.wordIs("let")) {
                int p = text.place(plan.wide, plan.high);
                add(LET, p, 0, text.number(1, MOST_TOLD));
            } else if (text.wordIs("rake")) {
                int p = text.place(plan.wide, plan.high);
                add(RAKE, p, text.place(plan.wide, plan.high), 0);
            } else if (text.wordIs("cart")) {
                add(CART, text.place(plan.wide, plan.high), 0, 0);
            } else if (text.wordIs("rain")) {
                add(RAIN, 0, 0, text.number(1, MOST_RAIN));
            } else if (text.wordIs("hour")) {
                add(HOUR, 0, 0, 0);
            } else if (text.wordIs("again")) {
                openAgain(text);
                return;
            } else {
                text.fail(CANT_STAND, text.wordFrom);
            }
            text.sign(';');
        }

        private void openAgain(Text text) {
            if (open >= MOST_OPEN) {
                text.fail(TOO_MANY, text.wordFrom);
                return;
            }
            int times = text.number(0, MOST_AGAIN);
            text.sign('[');
            openAt[open] = size;
            open++;
            add(AGAIN, 0, 0, times);
        }

        private void closeAgain(Text text) {
            text.sign(']');
            text.sign(';');
            open--;
            int from = openAt[open];
            if (from < MOST_WORK && size < MOST_WORK) {
                mate[from] = size;
                mate[size] = from;
            }
            add(CLOSE, 0, 0, 0);
        }

        private void add(int step, int first, int second, int much) {
            if (size < MOST_WORK) {
                kind[size] = step;
                place[size] = first;
                other[size] = second;
                amount[size] = much;
                size++;
            }
        }

        boolean isAt(int i) {
            return i >= 0 && i < size && i < MOST_WORK;
        }

        /** What comes when an again is come to. */
        int behindAgain(int i) {
            if (amount[i] == 0) {
                return mate[i] + 1;
            }
            left[i] = amount[i];
            return i + 1;
        }

        /** What comes when the end of an again's steps is come to. */
        int behindClose(int i) {
            int again = mate[i];
            if (!isAt(again)) {
                return i + 1;
            }
            left[again]--;
            return left[again] > 0 ? again + 1 : i + 1;
        }
    }

    /** All that work changes. */
    private static final class Pans {
        final int[] brine = new int[PLACES];
        final int[] salt = new int[PLACES];
        final int[] grams = new int[PLACES];
        int store;
        int day;
        int next;
        // Which places are in shade at each hour; it hangs on the heaps alone, so it is learnt when one changes.
        private final long[] shades = new long[MOST_HOURS];

        void copyFrom(Pans from) {
            System.arraycopy(from.brine, 0, brine, 0, PLACES);
            System.arraycopy(from.salt, 0, salt, 0, PLACES);
            System.arraycopy(from.grams, 0, grams, 0, PLACES);
            store = from.store;
            day = from.day;
            next = from.next;
            System.arraycopy(from.shades, 0, shades, 0, MOST_HOURS);
        }

        void start(Plan plan) {
            System.arraycopy(plan.brine, 0, brine, 0, PLACES);
            System.arraycopy(plan.salt, 0, salt, 0, PLACES);
            System.arraycopy(plan.grams, 0, grams, 0, PLACES);
            store = 0;
            day = 0;
            next = 0;
            learnShades(plan);
        }

        long brinePlaces() {
            return placesOver0(brine);
        }

        long saltPlaces() {
            return placesOver0(salt);
        }

        long heapPlaces() {
            return placesOver0(grams);
        }

        long dryPlaces() {
            return ~(brinePlaces() | heapPlaces());
        }

        long freePlaces() {
            return ~(brinePlaces() | saltPlaces() | heapPlaces());
        }

        boolean canPour(int p, int n) {
            return grams[p] == 0 && brine[p] + n <= MOST_HELD && salt[p] + n / 8 <= MOST_HELD;
        }

        boolean pour(int p, int n) {
            if (!canPour(p, n)) {
                return false;
            }
            brine[p] += n;
            salt[p] += n / 8;
            return true;
        }

        boolean canScrape(int from, int to) {
            return from != to && brine[from] == 0 && grams[from] == 0 && salt[from] > 0
                && brine[to] == 0 && salt[to] == 0 && grams[to] + salt[from] <= MOST_HELD;
        }

        boolean scrape(Plan plan, int from, int to) {
            if (!canScrape(from, to)) {
                return false;
            }
            grams[to] += salt[from];
            salt[from] = 0;
            learnShades(plan);
            return true;
        }

        boolean haul(Plan plan, int p) {
            if (grams[p] == 0) {
                return false;
            }
            store += grams[p];
            grams[p] = 0;
            learnShades(plan);
            return true;
        }

        void wet(Plan plan, int n) {
            for (int p = 0; p < PLACES; p++) {
                if (grams[p] > 0) {
                    grams[p] = Math.max(0, grams[p] - n);
                } else if (has(plan.places, p)) {
                    brine[p] = Math.min(MOST_HELD, brine[p] + n);
                }
            }
            learnShades(plan);
        }

        long shadeAt(int hour) {
            return hour >= 0 && hour < MOST_HOURS ? shades[hour] : 0;
        }

        private void learnShades(Plan plan) {
            for (int hour = 0; hour < MOST_HOURS; hour++) {
                shades[hour] = 0;
            }
            for (int p = 0; p < PLACES; p++) {
                for (int hour = 0; hour < plan.hours && hour < MOST_HOURS && grams[p] > 0; hour++) {
                    shades[hour] |= plan.shadedBy(p, grams[p], hour);
                }
            }
        }
    }

    /** The pans as they are, and as they were ahead of each work that can be undone. */
    private static final class Stand {
        final Pans now = new Pans();
        int kept;
        private final Pans[] before = new Pans[MOST_KEPT];

        Stand() {
            for (int i = 0; i < MOST_KEPT; i++) {
                before[i] = new Pans();
            }
        }

        void start(Plan plan) {
            now.start(plan);
            kept = 0;
        }

        void keep() {
            Pans room = kept >= 0 && kept < MOST_KEPT ? before[kept] : null;
            if (room != null) {
                room.copyFrom(now);
                kept++;
            }
        }

        boolean takeBack() {
            Pans latest = kept > 0 && kept <= MOST_KEPT ? before[kept - 1] : null;
            if (latest == null) {
                return false;
            }
            now.copyFrom(latest);
            kept--;
            return true;
        }

        void copyFrom(Stand from) {
            now.copyFrom(from.now);
            kept = from.kept;
            for (int i = 0; i < kept && i < MOST_KEPT; i++) {
                Pans to = before[i];
                Pans other = from.before[i];
                if (to != null && other != null) {
                    to.copyFrom(other);
                }
            }
        }
    }

    /** What heaps that might be laid would bring into shade, and what each heap alone keeps there. */
    private static final class Shadows {
        private final long[][] added = new long[PLACES][MOST_HOURS];
        private final long[] touched = new long[PLACES];
        private final long[] alone = new long[MOST_HOURS];

        /** Learns what a heap of so many grams at each of the places would bring into shade that is not. */
        void lay(Plan plan, Pans now, long sites, int grams) {
            for (int p = 0; p < PLACES; p++) {
                touched[p] = 0;
                for (int hour = 0; hour < plan.hours && hour < MOST_HOURS && has(sites, p); hour++) {
                    added[p][hour] = plan.shadedBy(p, grams, hour) & ~now.shadeAt(hour);
                    touched[p] |= added[p][hour];
                }
            }
        }

        long addedAt(int site, int hour) {
            return within(site, 0, PLACES - 1) && within(hour, 0, MOST_HOURS - 1) ? added[site][hour] : 0;
        }

        long touchedBy(int site) {
            return within(site, 0, PLACES - 1) ? touched[site] : 0;
        }

        int together(int p, int q, int hours) {
            int sum = 0;
            for (int hour = 0; hour < hours; hour++) {
                sum += Long.bitCount(addedAt(p, hour) | addedAt(q, hour));
            }
            return sum;
        }

        /** Learns which places are in shade by one heap alone. */
        void learnAlone(Plan plan, Pans now) {
            for (int hour = 0; hour < plan.hours && hour < MOST_HOURS; hour++) {
                long once = 0;
                long twice = 0;
                for (int p = 0; p < PLACES; p++) {
                    if (now.grams[p] > 0) {
                        long shaded = plan.shadedBy(p, now.grams[p], hour);
                        twice |= once & shaded;
                        once |= shaded;
                    }
                }
                alone[hour] = once & ~twice;
            }
        }

        int aloneBy(Plan plan, int p, int grams) {
            int sum = 0;
            for (int hour = 0; hour < plan.hours && hour < MOST_HOURS; hour++) {
                sum += Long.bitCount(plan.shadedBy(p, grams, hour) & alone[hour]);
            }
            return sum;
        }
    }
}
