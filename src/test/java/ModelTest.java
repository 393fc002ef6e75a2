import java.util.ArrayList;
import java.util.HashMap;
import java.util.List;
import java.util.Map;
import java.util.NoSuchElementException;
import java.util.Random;
import java.util.function.ToIntFunction;

/**
 * Random runs of calls, each answer compared with that of a slow model, written from the document
 * alone: it shares no code with the class, steps through everything place by place, and keeps
 * whole copies. The seeds are fixed, so each run of this test does the same.
 */
public final class ModelTest {
    private static final int REFUSED_PLACE = Integer.MIN_VALUE + 1;
    private static final int REFUSED_ARGUMENT = Integer.MIN_VALUE + 2;
    private static int wrong = 0;
    private static final Map<String, int[]> seen = new HashMap<>();

    public static void main(String[] args) {
        int runs = args.length > 0 ? Integer.parseInt(args[0]) : 260;
        int from = args.length > 1 ? Integer.parseInt(args[1]) : 0;
        for (int seed = from; seed < from + runs && wrong < 20; seed++) {
            new Run(seed).go();
        }
        for (String name : new String[] {"feed", "works", "law", "work", "book", "fault", "undo", "told", "pan", "hour",
            "shade", "dries", "would", "ahead", "drying", "first", "site", "pair", "relief", "way", "fits", "look",
            "water", "strongest", "greatest", "cast", "ready", "line", "dryland", "mounds", "loss", "nearest",
            "poured", "noon", "summer", "span", "image", "restore", "status", "count"}) {
            int[] n = seen.getOrDefault(name, new int[3]);
            if (args.length > 0) {
                System.out.println(name + ": " + n[0] + " calls, " + n[1] + " refused, " + n[2] + " below 0");
            }
            if (n[0] == 0) {
                wrong++;
                System.out.println(name + " was never called");
            }
        }
        if (wrong > 0) {
            System.out.println(wrong + " answers are wrong");
            System.exit(1);
        }
    }

    // ------------------------------------------------------------------ the model

    private static final class Fault extends Exception {
        private static final long serialVersionUID = 1L;
        final int kind;
        final int place;

        Fault(int kind, int place) {
            this.kind = kind;
            this.place = place;
        }
    }

    private static final class Missing extends RuntimeException {
        private static final long serialVersionUID = 1L;
    }

    private static final class Bad extends RuntimeException {
        private static final long serialVersionUID = 1L;
    }

    private record Token(char type, int start, String text) { }

    private record Step(String word, int[] n, List<Step> body) { }

    private record Line(int x, int y, int b) { }

    private record Hour(int side, int reach) { }

    private static List<Token> tokens(byte[] text) {
        List<Token> all = new ArrayList<>();
        int i = 0;
        while (i < text.length) {
            int c = text[i] & 255;
            int start = i;
            if (c == 32) {
                i++;
                continue;
            }
            StringBuilder b = new StringBuilder();
            char type = c >= '0' && c <= '9' ? 'n' : c >= 'a' && c <= 'z' ? 'w' : 's';
            do {
                b.append((char) c);
                i++;
                c = i < text.length ? text[i] & 255 : 0;
            } while (type == 'n' && c >= '0' && c <= '9' || type == 'w' && c >= 'a' && c <= 'z');
            all.add(new Token(type, start, b.toString()));
        }
        all.add(new Token('e', text.length, ""));
        return all;
    }

    private static final class Reader {
        final List<Token> all;
        int i = 0;

        Reader(byte[] text) {
            all = tokens(text);
        }

        Token peek() {
            return all.get(i);
        }

        boolean ended() {
            return peek().type == 'e';
        }

        boolean is(String what) {
            return peek().text.equals(what);
        }

        Token word() throws Fault {
            if (peek().type != 'w') {
                throw new Fault(1, peek().start);
            }
            return all.get(i++);
        }

        int number(int least, int most) throws Fault {
            Token t = peek();
            if (t.type != 'n') {
                throw new Fault(1, t.start);
            }
            java.math.BigInteger v = new java.math.BigInteger(t.text);
            if (v.compareTo(java.math.BigInteger.valueOf(least)) < 0
                || v.compareTo(java.math.BigInteger.valueOf(most)) > 0) {
                throw new Fault(2, t.start);
            }
            i++;
            return v.intValue();
        }

        void sign(String s) throws Fault {
            if (!is(s)) {
                throw new Fault(1, peek().start);
            }
            i++;
        }
    }

    private static final class Grid implements Cloneable {
        int[][] brine = new int[8][8];
        int[][] salt = new int[8][8];
        int[][] heap = new int[8][8];
        int store;
        int day;
        int next;

        Grid copy() {
            Grid g = new Grid();
            for (int x = 0; x < 8; x++) {
                g.brine[x] = brine[x].clone();
                g.salt[x] = salt[x].clone();
                g.heap[x] = heap[x].clone();
            }
            g.store = store;
            g.day = day;
            g.next = next;
            return g;
        }
    }

    private record Image(Grid grid, List<Grid> before) { }

    private static final class Model {
        byte[] tape = new byte[0];
        int w = 4;
        int h = 4;
        List<Hour> hours = new ArrayList<>();
        ToIntFunction<int[]> law = v -> 10 + v[2] / 4;
        List<Line> book = new ArrayList<>();
        Grid now = new Grid();
        List<Grid> before = new ArrayList<>();
        List<Image> images = new ArrayList<>();
        int refusedSteps;
        int faultPlace = -1;
        int missing;
        int bad;

        void place(int x, int y) {
            if (x < 0 || y < 0 || x >= w || y >= h) {
                throw new Missing();
            }
        }

        void anHour(int hour) {
            if (hour < 0 || hour >= hours.size()) {
                throw new Missing();
            }
        }

        void row(int y) {
            if (y < 0 || y >= h) {
                throw new Missing();
            }
        }

        static void range(int v, int a, int b) {
            if (v < a || v > b) {
                throw new Bad();
            }
        }

        int answer(String name, int[] a) {
            try {
                return plain(name, a);
            } catch (Missing e) {
                missing++;
                return REFUSED_PLACE;
            } catch (Bad e) {
                bad++;
                return REFUSED_ARGUMENT;
            }
        }

        byte[] take(int n, int most) {
            range(n, 0, Math.min(most, tape.length));
            byte[] text = java.util.Arrays.copyOf(tape, n);
            return text;
        }

        int plain(String name, int[] a) {
            switch (name) {
                case "feed":
                    return feed(a);
                case "works": {
                    byte[] text = take(a[0], 600);
                    tape = new byte[0];
                    try {
                        works(new Reader(text));
                        faultPlace = -1;
                        return hours.size();
                    } catch (Fault f) {
                        faultPlace = f.place;
                        return f.kind - 10;
                    }
                }
                case "law": {
                    byte[] text = take(a[0], 150);
                    tape = new byte[0];
                    try {
                        Reader r = new Reader(text);
                        ToIntFunction<int[]> read = sum(r, 0);
                        if (!r.ended()) {
                            throw new Fault(1, r.peek().start);
                        }
                        law = read;
                        faultPlace = -1;
                        return 1;
                    } catch (Fault f) {
                        faultPlace = f.place;
                        return f.kind - 10;
                    }
                }
                case "work": {
                    byte[] text = take(a[0], 150);
                    tape = new byte[0];
                    if (before.size() == 16) {
                        faultPlace = -1;
                        return -20;
                    }
                    try {
                        Reader r = new Reader(text);
                        List<Step> steps = steps(r, 0);
                        faultPlace = -1;
                        before.add(now.copy());
                        refusedSteps = 0;
                        begun = 0;
                        return perform(steps);
                    } catch (Fault f) {
                        faultPlace = f.place;
                        return f.kind - 10;
                    }
                }
                case "book": {
                    byte[] text = take(a[0], 60);
                    tape = new byte[0];
                    try {
                        book = lines(new Reader(text));
                        faultPlace = -1;
                        return book.size();
                    } catch (Fault f) {
                        faultPlace = f.place;
                        return f.kind - 10;
                    }
                }
                case "fault":
                    return faultPlace;
                case "undo":
                    if (before.isEmpty()) {
                        return -1;
                    }
                    now = before.remove(before.size() - 1);
                    refusedSteps = 0;
                    return before.size();
                case "image":
                    if (images.size() == 3) {
                        return -1;
                    }
                    images.add(new Image(now.copy(), copies(before)));
                    return images.size();
                case "restore": {
                    if (images.isEmpty()) {
                        return -1;
                    }
                    Image i = images.remove(images.size() - 1);
                    now = i.grid.copy();
                    before = copies(i.before);
                    refusedSteps = 0;
                    return images.size();
                }
                case "status":
                    return a[0] == 0 ? missing : a[0] == 1 ? bad : -1;
                case "count":
                    return a[0] == 0 ? images.size() : a[0] == 1 ? tape.length : a[0] == 2 ? before.size() : -1;
                default:
                    return ask(name, a);
            }
        }

        static List<Grid> copies(List<Grid> all) {
            List<Grid> out = new ArrayList<>();
            for (Grid g : all) {
                out.add(g.copy());
            }
            return out;
        }

        int feed(int[] a) {
            if (tape.length + 20 > 600) {
                return -1;
            }
            java.nio.ByteBuffer b = java.nio.ByteBuffer.allocate(tape.length + 20);
            b.put(tape);
            for (int v : a) {
                b.putInt(v);
            }
            tape = b.array();
            return tape.length;
        }

        // ---- texts

        void works(Reader r) throws Fault {
            int nw = 4;
            int nh = 4;
            int clauses = 0;
            List<Hour> list = new ArrayList<>();
            int[][] b = new int[8][8];
            int[][] g = new int[8][8];
            int[][] z = new int[8][8];
            while (!r.ended()) {
                Token t = r.word();
                if (!List.of("size", "hour", "pan", "heap").contains(t.text)) {
                    throw new Fault(1, t.start);
                }
                clauses++;
                if (clauses > 60 || t.text.equals("hour") && list.size() == 10) {
                    throw new Fault(3, t.start);
                }
                switch (t.text) {
                    case "size":
                        nw = r.number(1, 8);
                        nh = r.number(1, 8);
                        break;
                    case "hour": {
                        int d = r.number(0, 7);
                        list.add(new Hour(d, r.number(0, 40)));
                        break;
                    }
                    case "pan": {
                        int x = r.number(0, 7);
                        int y = r.number(0, 7);
                        b[x][y] = r.number(0, 999);
                        g[x][y] = r.number(0, 999);
                        break;
                    }
                    default: {
                        int x = r.number(0, 7);
                        int y = r.number(0, 7);
                        z[x][y] = r.number(1, 999);
                    }
                }
                r.sign(";");
            }
            Grid grid = new Grid();
            for (int x = 0; x < nw; x++) {
                for (int y = 0; y < nh; y++) {
                    grid.heap[x][y] = z[x][y];
                    if (z[x][y] == 0) {
                        grid.brine[x][y] = b[x][y];
                        grid.salt[x][y] = g[x][y];
                    }
                }
            }
            w = nw;
            h = nh;
            hours = list;
            now = grid;
            law = v -> 10 + v[2] / 4;
            book = new ArrayList<>();
            before = new ArrayList<>();
            images = new ArrayList<>();
            refusedSteps = 0;
        }

        ToIntFunction<int[]> sum(Reader r, int open) throws Fault {
            ToIntFunction<int[]> left = product(r, open);
            while (r.is("+") || r.is("-")) {
                boolean plus = r.is("+");
                r.i++;
                ToIntFunction<int[]> a = left;
                ToIntFunction<int[]> b = product(r, open);
                left = plus ? v -> a.applyAsInt(v) + b.applyAsInt(v) : v -> a.applyAsInt(v) - b.applyAsInt(v);
            }
            return left;
        }

        ToIntFunction<int[]> product(Reader r, int open) throws Fault {
            ToIntFunction<int[]> left = unit(r, open);
            while (r.is("*") || r.is("/") || r.is("%")) {
                String how = r.peek().text;
                r.i++;
                ToIntFunction<int[]> a = left;
                ToIntFunction<int[]> b = unit(r, open);
                left = v -> {
                    int m = a.applyAsInt(v);
                    int n = b.applyAsInt(v);
                    if (how.equals("*")) {
                        return (int) ((long) m * n);
                    }
                    if (n == 0) {
                        return 0;
                    }
                    return (int) (how.equals("/") ? (long) m / n : (long) m % n);
                };
            }
            return left;
        }

        ToIntFunction<int[]> unit(Reader r, int open) throws Fault {
            Token t = r.peek();
            if (t.type == 'n') {
                int n = r.number(0, 999);
                return v -> n;
            }
            if (t.text.equals("(")) {
                if (open == 6) {
                    throw new Fault(3, t.start);
                }
                r.i++;
                ToIntFunction<int[]> e = sum(r, open + 1);
                r.sign(")");
                return e;
            }
            if (t.text.equals("least") || t.text.equals("most")) {
                if (open == 6) {
                    throw new Fault(3, t.start);
                }
                r.i++;
                r.sign("[");
                ToIntFunction<int[]> a = sum(r, open + 1);
                r.sign(",");
                ToIntFunction<int[]> b = sum(r, open + 1);
                r.sign("]");
                return t.text.equals("least") ? v -> Math.min(a.applyAsInt(v), b.applyAsInt(v))
                    : v -> Math.max(a.applyAsInt(v), b.applyAsInt(v));
            }
            int k = List.of("brine", "salt", "reach", "side", "hour", "day", "col", "row").indexOf(t.text);
            if (k < 0) {
                throw new Fault(1, t.start);
            }
            r.i++;
            return v -> v[k];
        }

        List<Step> steps(Reader r, int open) throws Fault {
            List<Step> out = new ArrayList<>();
            while (!(open == 0 ? r.ended() : r.is("]"))) {
                Token t = r.word();
                switch (t.text) {
                    case "let":
                        out.add(new Step("let", new int[] {r.number(0, w - 1), r.number(0, h - 1), r.number(1, 999)}, null));
                        break;
                    case "rake":
                        out.add(new Step("rake", new int[] {r.number(0, w - 1), r.number(0, h - 1),
                            r.number(0, w - 1), r.number(0, h - 1)}, null));
                        break;
                    case "cart":
                        out.add(new Step("cart", new int[] {r.number(0, w - 1), r.number(0, h - 1)}, null));
                        break;
                    case "rain":
                        out.add(new Step("rain", new int[] {r.number(1, 99)}, null));
                        break;
                    case "hour":
                        out.add(new Step("hour", new int[0], null));
                        break;
                    case "again": {
                        if (open == 6) {
                            throw new Fault(3, t.start);
                        }
                        int n = r.number(0, 60);
                        r.sign("[");
                        List<Step> body = steps(r, open + 1);
                        r.sign("]");
                        out.add(new Step("again", new int[] {n}, body));
                        break;
                    }
                    default:
                        throw new Fault(1, t.start);
                }
                r.sign(";");
            }
            return out;
        }

        List<Line> lines(Reader r) throws Fault {
            List<Line> out = new ArrayList<>();
            while (!r.ended()) {
                int at = r.peek().start;
                int x = r.number(0, w - 1);
                if (out.size() == 8) {
                    throw new Fault(3, at);
                }
                at = r.peek().start;
                int y = r.number(0, h - 1);
                for (Line l : out) {
                    if (l.x == x && l.y == y) {
                        throw new Fault(2, at);
                    }
                }
                out.add(new Line(x, y, r.number(0, 9999)));
                r.sign(";");
            }
            return out;
        }

        // ---- work

        int begun;

        int perform(List<Step> steps) {
            int done = 0;
            for (Step s : steps) {
                if (begun == 200) {
                    return done;
                }
                begun++;
                if (s.word.equals("again")) {
                    for (int i = 0; i < s.n[0]; i++) {
                        done += perform(s.body);
                    }
                } else if (step(now, s, true)) {
                    done++;
                } else {
                    refusedSteps++;
                }
            }
            return done;
        }

        boolean step(Grid g, Step s, boolean dayEnds) {
            int[] n = s.n;
            switch (s.word) {
                case "let": {
                    int b = g.brine[n[0]][n[1]] + n[2];
                    int t = g.salt[n[0]][n[1]] + n[2] / 8;
                    if (g.heap[n[0]][n[1]] > 0 || b > 9999 || t > 9999) {
                        return false;
                    }
                    g.brine[n[0]][n[1]] = b;
                    g.salt[n[0]][n[1]] = t;
                    return true;
                }
                case "rake":
                    if (!rakes(g, n)) {
                        return false;
                    }
                    g.heap[n[2]][n[3]] += g.salt[n[0]][n[1]];
                    g.salt[n[0]][n[1]] = 0;
                    return true;
                case "cart":
                    if (g.heap[n[0]][n[1]] == 0) {
                        return false;
                    }
                    g.store += g.heap[n[0]][n[1]];
                    g.heap[n[0]][n[1]] = 0;
                    return true;
                case "rain":
                    for (int x = 0; x < w; x++) {
                        for (int y = 0; y < h; y++) {
                            if (g.heap[x][y] == 0) {
                                g.brine[x][y] = Math.min(9999, g.brine[x][y] + n[0]);
                            } else if (g.heap[x][y] <= n[0]) {
                                g.heap[x][y] = 0;
                            } else {
                                g.heap[x][y] -= n[0];
                            }
                        }
                    }
                    return true;
                default:
                    if (hours.isEmpty() || dayEnds && g.day >= 400) {
                        return false;
                    }
                    pass(g);
                    return true;
            }
        }

        static boolean rakes(Grid g, int[] n) {
            return g.brine[n[0]][n[1]] == 0 && g.heap[n[0]][n[1]] == 0 && g.salt[n[0]][n[1]] > 0
                && !(n[0] == n[2] && n[1] == n[3]) && g.brine[n[2]][n[3]] == 0 && g.salt[n[2]][n[3]] == 0
                && g.heap[n[2]][n[3]] + g.salt[n[0]][n[1]] <= 9999;
        }

        void pass(Grid g) {
            boolean[][] shade = shade(g.heap, g.next);
            for (int x = 0; x < w; x++) {
                for (int y = 0; y < h; y++) {
                    if (!shade[x][y]) {
                        g.brine[x][y] = Math.max(0, g.brine[x][y] - dries(g, x, y, g.next));
                    }
                }
            }
            g.next++;
            if (g.next == hours.size()) {
                g.next = 0;
                g.day++;
            }
        }

        int dries(Grid g, int x, int y, int hour) {
            return clamp(law.applyAsInt(new int[] {g.brine[x][y], g.salt[x][y], hours.get(hour).reach,
                hours.get(hour).side, hour, g.day, x, y}));
        }

        static int clamp(int v) {
            return v < 0 ? 0 : v > 99 ? 99 : v;
        }

        static int dx(int side) {
            return side == 1 || side == 2 || side == 3 ? 1 : side == 5 || side == 6 || side == 7 ? -1 : 0;
        }

        static int dy(int side) {
            return side == 3 || side == 4 || side == 5 ? 1 : side == 7 || side == 0 || side == 1 ? -1 : 0;
        }

        boolean[][] shade(int[][] heap, int hour) {
            boolean[][] out = new boolean[8][8];
            for (int x = 0; x < w; x++) {
                for (int y = 0; y < h; y++) {
                    if (heap[x][y] > 0) {
                        out[x][y] = true;
                        int far = (heap[x][y] / 50 + 1) * hours.get(hour).reach / 10;
                        for (int k = 1; k <= Math.min(far, 20); k++) {
                            int u = x - k * dx(hours.get(hour).side);
                            int v = y - k * dy(hours.get(hour).side);
                            if (u >= 0 && v >= 0 && u < w && v < h) {
                                out[u][v] = true;
                            }
                        }
                    }
                }
            }
            return out;
        }

        // ---- asking

        int sumOf(int[][] m) {
            int s = 0;
            for (int[] c : m) {
                for (int v : c) {
                    s += v;
                }
            }
            return s;
        }

        int many(int[][] m) {
            int s = 0;
            for (int[] c : m) {
                for (int v : c) {
                    s += v > 0 ? 1 : 0;
                }
            }
            return s;
        }

        int dryPans(Grid g) {
            int s = 0;
            for (int x = 0; x < w; x++) {
                for (int y = 0; y < h; y++) {
                    s += g.brine[x][y] == 0 && g.heap[x][y] == 0 ? 1 : 0;
                }
            }
            return s;
        }

        static int strength(int salt, int brine) {
            return salt + brine == 0 ? 0 : (int) (1000L * salt / (salt + brine));
        }

        int shaded(int[][] heap, int hour) {
            int s = 0;
            for (boolean[] c : shade(heap, hour)) {
                for (boolean v : c) {
                    s += v ? 1 : 0;
                }
            }
            return s;
        }

        int shadedInDay(int[][] heap) {
            int s = 0;
            for (int i = 0; i < hours.size(); i++) {
                s += shaded(heap, i);
            }
            return s;
        }

        boolean free(int x, int y) {
            return now.brine[x][y] == 0 && now.salt[x][y] == 0 && now.heap[x][y] == 0;
        }

        int drying(int x, int y) {
            if (now.heap[x][y] > 0) {
                return -1;
            }
            Grid g = now.copy();
            for (int n = 0; n <= 500; n++) {
                if (g.brine[x][y] == 0) {
                    return n;
                }
                if (hours.isEmpty()) {
                    return -1;
                }
                pass(g);
            }
            return -1;
        }

        int loss(int hour) {
            Grid g = now.copy();
            g.next = hour;
            pass(g);
            return sumOf(now.brine) - sumOf(g.brine);
        }

        Grid afterDay(int x, int y, int z) {
            Grid g = now.copy();
            g.heap[x][y] = z;
            for (int i = 0; i < hours.size(); i++) {
                pass(g);
            }
            return g;
        }

        List<Grid> fits(int z, List<Integer> places) {
            List<Grid> out = new ArrayList<>();
            for (int y = 0; y < h; y++) {
                for (int x = 0; x < w; x++) {
                    if (!free(x, y)) {
                        continue;
                    }
                    Grid g = afterDay(x, y, z);
                    boolean right = true;
                    for (Line l : book) {
                        right &= g.brine[l.x][l.y] == l.b;
                    }
                    if (right) {
                        out.add(g);
                        places.add(10 * y + x);
                    }
                }
            }
            return out;
        }

        int[][] distances(int x, int y) {
            int[][] d = new int[w][h];
            for (int[] c : d) {
                java.util.Arrays.fill(c, -1);
            }
            if (now.brine[x][y] > 0) {
                return d;
            }
            d[x][y] = 0;
            List<int[]> queue = new ArrayList<>();
            queue.add(new int[] {x, y});
            for (int i = 0; i < queue.size(); i++) {
                int[] p = queue.get(i);
                for (int side = 0; side < 8; side += 2) {
                    int u = p[0] + dx(side);
                    int v = p[1] + dy(side);
                    if (u >= 0 && v >= 0 && u < w && v < h && now.brine[u][v] == 0 && d[u][v] < 0) {
                        d[u][v] = d[p[0]][p[1]] + 1;
                        queue.add(new int[] {u, v});
                    }
                }
            }
            return d;
        }

        int seed;

        int drawn(int by) {
            seed = (int) (((seed & 0xffffffffL) * 1103515245L + 12345L) & 0xffffffffL);
            return (int) (((seed & 0xffffffffL) / 65536) % 32768) % by;
        }

        Grid summer(int s, int n, int q) {
            Grid g = now.copy();
            seed = s;
            for (int i = 0; i < n; i++) {
                int x = drawn(w);
                int y = drawn(h);
                if (drawn(16) < q) {
                    step(g, new Step("let", new int[] {x, y, 1 + drawn(99)}, null), false);
                } else {
                    step(g, new Step("cart", new int[] {x, y}, null), false);
                }
                step(g, new Step("hour", null, null), false);
            }
            return g;
        }

        int bits(boolean[] b) {
            int s = 0;
            for (int i = 0; i < b.length; i++) {
                s += b[i] ? 1 << i : 0;
            }
            return s;
        }

        int ask(String name, int[] a) {
            switch (name) {
                case "told": {
                    range(a[0], 0, 12);
                    int salty = 0;
                    for (int x = 0; x < w; x++) {
                        for (int y = 0; y < h; y++) {
                            salty += now.brine[x][y] == 0 && now.heap[x][y] == 0 && now.salt[x][y] > 0 ? 1 : 0;
                        }
                    }
                    return new int[] {w, h, hours.size(), now.day, hours.isEmpty() ? -1 : now.next, sumOf(now.brine),
                        sumOf(now.salt), sumOf(now.heap), now.store, book.size(), refusedSteps, many(now.heap),
                        salty}[a[0]];
                }
                case "pan": {
                    place(a[0], a[1]);
                    range(a[2], 0, 6);
                    int b = now.brine[a[0]][a[1]];
                    int s = now.salt[a[0]][a[1]];
                    int z = now.heap[a[0]][a[1]];
                    int sun = 0;
                    for (int i = 0; i < hours.size(); i++) {
                        sun += shade(now.heap, i)[a[0]][a[1]] ? 0 : 1;
                    }
                    int in = !hours.isEmpty() && shade(now.heap, now.next)[a[0]][a[1]] ? 1 : 0;
                    return new int[] {b, s, strength(s, b), z, z == 0 ? 0 : z / 50 + 1, sun, in}[a[2]];
                }
                case "hour":
                    anHour(a[0]);
                    range(a[1], 0, 2);
                    return a[1] == 0 ? hours.get(a[0]).side : a[1] == 1 ? hours.get(a[0]).reach
                        : shaded(now.heap, a[0]);
                case "shade": {
                    anHour(a[0]);
                    row(a[1]);
                    boolean[] in = new boolean[w];
                    for (int x = 0; x < w; x++) {
                        in[x] = shade(now.heap, a[0])[x][a[1]];
                    }
                    return bits(in);
                }
                case "dries":
                    place(a[0], a[1]);
                    anHour(a[2]);
                    return dries(now, a[0], a[1], a[2]);
                case "would":
                    range(a[0], 0, 9999);
                    range(a[1], 0, 9999);
                    range(a[2], 0, 40);
                    range(a[3], 0, 7);
                    range(a[4], 0, 9);
                    range(a[5], 0, 400);
                    range(a[6], 0, 7);
                    range(a[7], 0, 7);
                    return clamp(law.applyAsInt(a));
                case "ahead": {
                    range(a[0], 0, 500);
                    range(a[1], 0, 2);
                    Grid g = now.copy();
                    for (int i = 0; i < a[0]; i++) {
                        step(g, new Step("hour", null, null), false);
                    }
                    return a[1] == 0 ? sumOf(g.brine) : a[1] == 1 ? dryPans(g) : g.day;
                }
                case "drying":
                    place(a[0], a[1]);
                    return drying(a[0], a[1]);
                case "first": {
                    range(a[0], 0, 1);
                    int where = -1;
                    int least = -1;
                    Grid g = now.copy();
                    int[][] n = new int[w][h];
                    for (int i = 0; i <= 500; i++) {
                        for (int x = 0; x < w; x++) {
                            for (int y = 0; y < h; y++) {
                                n[x][y] += g.brine[x][y] > 0 ? 1 : 0;
                            }
                        }
                        if (!hours.isEmpty()) {
                            pass(g);
                        }
                    }
                    for (int y = 0; y < h; y++) {
                        for (int x = 0; x < w; x++) {
                            if (now.brine[x][y] > 0 && n[x][y] <= 500 && (where < 0 || n[x][y] < least)) {
                                where = 10 * y + x;
                                least = n[x][y];
                            }
                        }
                    }
                    return a[0] == 0 ? where : least;
                }
                case "site": {
                    range(a[0], 1, 999);
                    range(a[1], 0, 1);
                    int where = -1;
                    int least = -1;
                    for (int y = 0; y < h; y++) {
                        for (int x = 0; x < w; x++) {
                            if (free(x, y)) {
                                Grid g = now.copy();
                                g.heap[x][y] = a[0];
                                int more = shadedInDay(g.heap) - shadedInDay(now.heap);
                                if (where < 0 || more < least) {
                                    where = 10 * y + x;
                                    least = more;
                                }
                            }
                        }
                    }
                    return a[1] == 0 ? where : least;
                }
                case "pair": {
                    range(a[0], 1, 999);
                    range(a[1], 0, 2);
                    int[] found = {-1, -1, -1};
                    int base = shadedInDay(now.heap);
                    for (int i = 0; i < w * h; i++) {
                        for (int j = i + 1; j < w * h; j++) {
                            if (free(i % w, i / w) && free(j % w, j / w)) {
                                Grid g = now.copy();
                                g.heap[i % w][i / w] = a[0];
                                g.heap[j % w][j / w] = a[0];
                                int more = shadedInDay(g.heap) - base;
                                if (found[0] < 0 || more < found[2]) {
                                    found = new int[] {i / w * 10 + i % w, j / w * 10 + j % w, more};
                                }
                            }
                        }
                    }
                    return found[a[1]];
                }
                case "relief": {
                    range(a[0], 0, 1);
                    int where = -1;
                    int most = -1;
                    for (int y = 0; y < h; y++) {
                        for (int x = 0; x < w; x++) {
                            if (now.heap[x][y] > 0) {
                                Grid g = now.copy();
                                g.heap[x][y] = 0;
                                int less = shadedInDay(now.heap) - shadedInDay(g.heap);
                                if (less > most) {
                                    where = 10 * y + x;
                                    most = less;
                                }
                            }
                        }
                    }
                    return a[0] == 0 ? where : most;
                }
                case "way":
                    place(a[0], a[1]);
                    place(a[2], a[3]);
                    return distances(a[0], a[1])[a[2]][a[3]];
                case "dryland": {
                    place(a[0], a[1]);
                    int s = 0;
                    for (int[] c : distances(a[0], a[1])) {
                        for (int v : c) {
                            s += v >= 0 ? 1 : 0;
                        }
                    }
                    return s;
                }
                case "fits": {
                    range(a[0], 1, 999);
                    range(a[1], 0, 1);
                    List<Integer> places = new ArrayList<>();
                    int n = fits(a[0], places).size();
                    return a[1] == 0 ? n : n == 0 ? -1 : places.get(0);
                }
                case "look": {
                    range(a[0], 1, 999);
                    range(a[1], 0, 1);
                    List<Grid> all = fits(a[0], new ArrayList<>());
                    int where = -1;
                    int least = -1;
                    for (int y = 0; y < h; y++) {
                        for (int x = 0; x < w; x++) {
                            boolean inLine = false;
                            for (Line l : book) {
                                inLine |= l.x == x && l.y == y;
                            }
                            if (inLine) {
                                continue;
                            }
                            Map<Integer, Integer> by = new HashMap<>();
                            int worst = 0;
                            for (Grid g : all) {
                                worst = Math.max(worst, by.merge(g.brine[x][y], 1, Integer::sum));
                            }
                            if (where < 0 || worst < least) {
                                where = 10 * y + x;
                                least = worst;
                            }
                        }
                    }
                    return a[1] == 0 ? where : least;
                }
                case "water": {
                    place(a[0], a[1]);
                    range(a[3], 0, 99999);
                    if (a[2] < 0 || a[2] >= 1 << w) {
                        throw new Bad();
                    }
                    if ((a[2] >> a[0] & 1) == 0) {
                        return 0;
                    }
                    int bound = 0;
                    while (bound < 10000) {
                        int sum = 0;
                        for (int x = 0; x < w; x++) {
                            sum += (a[2] >> x & 1) == 1 ? Math.min(now.brine[x][a[1]], bound + 1) : 0;
                        }
                        if (sum > a[3]) {
                            break;
                        }
                        bound++;
                    }
                    return Math.min(bound, now.brine[a[0]][a[1]]);
                }
                case "strongest":
                case "greatest": {
                    range(a[0], 0, 1);
                    int where = -1;
                    int most = -1;
                    for (int y = 0; y < h; y++) {
                        for (int x = 0; x < w; x++) {
                            boolean strong = name.equals("strongest");
                            int v = strong ? strength(now.salt[x][y], now.brine[x][y]) : now.heap[x][y];
                            if ((strong ? now.salt[x][y] > 0 : v > 0) && v > most) {
                                most = v;
                                where = 10 * y + x;
                            }
                        }
                    }
                    return a[0] == 0 ? where : most;
                }
                case "cast": {
                    place(a[0], a[1]);
                    anHour(a[2]);
                    int[][] alone = new int[8][8];
                    alone[a[0]][a[1]] = now.heap[a[0]][a[1]];
                    return Math.max(0, shaded(alone, a[2]) - 1);
                }
                case "ready": {
                    place(a[0], a[1]);
                    row(a[2]);
                    boolean[] in = new boolean[w];
                    for (int x = 0; x < w; x++) {
                        in[x] = rakes(now, new int[] {x, a[2], a[0], a[1]});
                    }
                    return bits(in);
                }
                case "line": {
                    range(a[1], 0, 3);
                    boolean across = a[1] == 0 || a[1] == 2;
                    range(a[0], 0, (across ? h : w) - 1);
                    int s = 0;
                    for (int i = 0; i < (across ? w : h); i++) {
                        int x = across ? i : a[0];
                        int y = across ? a[0] : i;
                        s += a[1] < 2 ? now.brine[x][y] : now.salt[x][y];
                    }
                    return s;
                }
                case "mounds": {
                    row(a[0]);
                    boolean[] in = new boolean[w];
                    for (int x = 0; x < w; x++) {
                        in[x] = now.heap[x][a[0]] > 0;
                    }
                    return bits(in);
                }
                case "loss":
                    anHour(a[0]);
                    return loss(a[0]);
                case "nearest": {
                    place(a[0], a[1]);
                    for (int far = 0; far < 20; far++) {
                        for (int y = 0; y < h; y++) {
                            for (int x = 0; x < w; x++) {
                                if (now.heap[x][y] > 0 && Math.abs(x - a[0]) + Math.abs(y - a[1]) == far) {
                                    return 10 * y + x;
                                }
                            }
                        }
                    }
                    return -1;
                }
                case "poured": {
                    place(a[0], a[1]);
                    range(a[2], 1, 999);
                    Grid g = now.copy();
                    if (!step(g, new Step("let", a, null), true)) {
                        return -1;
                    }
                    return strength(g.salt[a[0]][a[1]], g.brine[a[0]][a[1]]);
                }
                case "noon": {
                    range(a[0], 0, 1);
                    int where = -1;
                    int most = -1;
                    for (int i = 0; i < hours.size(); i++) {
                        if (loss(i) > most) {
                            most = loss(i);
                            where = i;
                        }
                    }
                    return a[0] == 0 ? where : most;
                }
                case "summer": {
                    range(a[1], 1, 96);
                    range(a[2], 0, 16);
                    range(a[3], 0, 3);
                    Grid g = summer(a[0], a[1], a[2]);
                    return new int[] {sumOf(g.brine), sumOf(g.salt), g.store, dryPans(g)}[a[3]];
                }
                case "span": {
                    place(a[5], a[6]);
                    range(a[1], 1, 10);
                    range(a[2], 1, 96);
                    range(a[3], 0, 16);
                    range(a[4], 0, 2);
                    int least = Integer.MAX_VALUE;
                    int most = Integer.MIN_VALUE;
                    int dry = 0;
                    for (int i = 0; i < a[1]; i++) {
                        Grid g = summer(a[0] + i, a[2], a[3]);
                        least = Math.min(least, sumOf(g.brine));
                        most = Math.max(most, sumOf(g.brine));
                        dry += g.brine[a[5]][a[6]] == 0 && g.heap[a[5]][a[6]] == 0 ? 1 : 0;
                    }
                    return new int[] {least, most, dry}[a[4]];
                }
                default:
                    throw new AssertionError(name);
            }
        }
    }

    // ------------------------------------------------------------------ the class

    private static int real(SunnyPans s, String name, int[] a) {
        try {
            switch (name) {
                case "feed": return s.feed(a[0], a[1], a[2], a[3], a[4]);
                case "works": return s.works(a[0]);
                case "law": return s.law(a[0]);
                case "work": return s.work(a[0]);
                case "book": return s.book(a[0]);
                case "fault": return s.fault();
                case "undo": return s.undo();
                case "told": return s.told(a[0]);
                case "pan": return s.pan(a[0], a[1], a[2]);
                case "hour": return s.hour(a[0], a[1]);
                case "shade": return s.shade(a[0], a[1]);
                case "dries": return s.dries(a[0], a[1], a[2]);
                case "would": return s.would(a[0], a[1], a[2], a[3], a[4], a[5], a[6], a[7]);
                case "ahead": return s.ahead(a[0], a[1]);
                case "drying": return s.drying(a[0], a[1]);
                case "first": return s.first(a[0]);
                case "site": return s.site(a[0], a[1]);
                case "pair": return s.pair(a[0], a[1]);
                case "relief": return s.relief(a[0]);
                case "way": return s.way(a[0], a[1], a[2], a[3]);
                case "fits": return s.fits(a[0], a[1]);
                case "look": return s.look(a[0], a[1]);
                case "water": return s.water(a[0], a[1], a[2], a[3]);
                case "strongest": return s.strongest(a[0]);
                case "greatest": return s.greatest(a[0]);
                case "cast": return s.cast(a[0], a[1], a[2]);
                case "ready": return s.ready(a[0], a[1], a[2]);
                case "line": return s.line(a[0], a[1]);
                case "dryland": return s.dryland(a[0], a[1]);
                case "mounds": return s.mounds(a[0]);
                case "loss": return s.loss(a[0]);
                case "nearest": return s.nearest(a[0], a[1]);
                case "poured": return s.poured(a[0], a[1], a[2]);
                case "noon": return s.noon(a[0]);
                case "summer": return s.summer(a[0], a[1], a[2], a[3]);
                case "span": return s.span(a[0], a[1], a[2], a[3], a[4], a[5], a[6]);
                case "image": return s.image();
                case "restore": return s.restore();
                case "status": return s.status(a[0]);
                case "count": return s.count(a[0]);
                default: throw new AssertionError(name);
            }
        } catch (NoSuchElementException e) {
            return e.getClass() == NoSuchElementException.class ? REFUSED_PLACE : fail(name, e);
        } catch (IllegalArgumentException e) {
            return e.getClass() == IllegalArgumentException.class ? REFUSED_ARGUMENT : fail(name, e);
        } catch (RuntimeException e) {
            return fail(name, e);
        }
    }

    private static int fail(String name, RuntimeException e) {
        wrong++;
        System.out.println(name + " threw " + e);
        e.printStackTrace(System.out);
        return Integer.MIN_VALUE;
    }

    // ------------------------------------------------------------------ random runs

    private static final class Run {
        final int seed;
        final Random random;
        final SunnyPans real = new SunnyPans();
        final Model model = new Model();
        final List<String> log = new ArrayList<>();
        final int style;
        int calls = 0;

        Run(int seed) {
            this.seed = seed;
            random = new Random(seed);
            style = seed % 6;
        }

        int below(int n) {
            return random.nextInt(n);
        }

        int between(int a, int b) {
            return a + random.nextInt(b - a + 1);
        }

        int call(String name, int... a) {
            calls++;
            int want = model.answer(name, a);
            int got = ModelTest.real(real, name, a);
            if (!name.equals("feed")) {
                log.add(name + java.util.Arrays.toString(a) + " -> " + want);
            }
            int[] n = seen.computeIfAbsent(name, k -> new int[3]);
            n[0]++;
            n[1] += want == REFUSED_PLACE || want == REFUSED_ARGUMENT ? 1 : 0;
            n[2] += want < 0 && want > -100 ? 1 : 0;
            if (got != want) {
                wrong++;
                System.out.println("run " + seed + ", call " + calls + ": " + log.get(log.size() - 1) + ", but it answered " + got);
                for (int i = Math.max(0, log.size() - 60); i < log.size(); i++) {
                    System.out.println("    " + log.get(i));
                }
            }
            return want;
        }

        void text(String name, String text) {
            int most = name.equals("works") ? 600 : name.equals("book") ? 60 : 150;
            int junk = below(30) == 0 ? between(1, 3) : 0;
            int n = Math.min(text.length(), most);
            int groups = (n + 19) / 20 + junk;
            for (int i = 0; i < groups; i++) {
                int[] v = new int[5];
                for (int j = 0; j < 20; j++) {
                    int at = i * 20 + j;
                    int c = at < n ? text.charAt(at) : at % 251;
                    v[j / 4] |= c << 24 - j % 4 * 8;
                }
                call("feed", v);
            }
            log.add("    " + text);
            if (below(40) == 0) {
                call(name, below(2) == 0 ? -1 : Math.max(model.tape.length, most) + 1);
                call("count", 1);
            }
            if (model.tape.length >= n) {
                call(name, n);
            }
            call("fault");
        }

        /** Now and then a byte is lost, doubled or made another, so that faults stand anywhere. */
        String spoiled(String text, int chance) {
            if (below(100) >= chance || text.isEmpty()) {
                return text;
            }
            StringBuilder b = new StringBuilder(text);
            for (int i = between(1, 2); i > 0 && b.length() > 0; i--) {
                int at = below(b.length());
                switch (below(6)) {
                    case 0: b.deleteCharAt(at); break;
                    case 1: b.insert(at, b.charAt(at)); break;
                    case 2: b.setCharAt(at, (char) between(0, 255)); break;
                    case 3: b.setLength(at); break;
                    case 4: b.insert(at, between(0, 1200)); break;
                    default: b.insert(at, ";[](),+-*/% abXZ".charAt(below(16)));
                }
            }
            return b.toString();
        }

        String gap() {
            int n = below(12);
            return n == 0 ? "  " : n == 1 ? "   " : " ";
        }

        String maybe() {
            return below(15) == 0 ? " " : "";
        }

        String number(int a, int b) {
            String zeros = below(40) == 0 ? "000" : "";
            if (below(150) == 0) {
                return zeros + (below(2) == 0 ? b + 1 : Math.max(0, a - 1));
            }
            return zeros + (below(10) == 0 ? (below(2) == 0 ? a : b) : between(a, b));
        }

        String worksText() {
            StringBuilder b = new StringBuilder();
            int w = style == 0 ? 2 : style == 1 ? between(1, 3) : style == 2 ? 8 : between(1, 8);
            int h = style == 0 ? 2 : style == 1 ? between(1, 4) : style == 2 ? 8 : between(1, 8);
            int clauses = below(30) == 0 ? 62 : between(3, 34);
            boolean sized = below(10) > 0;
            if (sized) {
                b.append("size ").append(w).append(' ').append(h).append(';');
            } else {
                w = 4;
                h = 4;
            }
            int manyHours = below(12) == 0 ? 11 : below(11);
            int hours = 0;
            for (int i = 0; i < clauses && b.length() < 560; i++) {
                int what = clauses == 62 ? 0 : below(10);
                b.append(maybe());
                if (hours < manyHours && what < 5) {
                    hours++;
                    b.append("hour").append(gap()).append(number(0, 7)).append(gap()).append(number(0, 40));
                } else if (what == 0 && below(4) == 0 || clauses == 62) {
                    b.append("size").append(w).append(gap()).append(h);
                } else if (what < 8) {
                    b.append("pan").append(gap()).append(number(0, Math.min(7, w))).append(gap())
                        .append(number(0, Math.min(7, h))).append(gap())
                        .append(number(0, below(3) == 0 ? 999 : below(2) == 0 ? 0 : 120)).append(gap())
                        .append(number(0, below(2) == 0 ? 999 : 90));
                } else {
                    b.append("heap").append(gap()).append(number(0, Math.min(7, w))).append(gap())
                        .append(number(0, Math.min(7, h))).append(gap()).append(number(1, below(2) == 0 ? 999 : 90));
                }
                b.append(maybe()).append(';');
            }
            return b.append(maybe()).toString();
        }

        String lawText(int deep) {
            StringBuilder b = new StringBuilder();
            for (int i = between(1, deep > 0 ? 4 : 3); i > 0; i--) {
                b.append(maybe());
                int what = below(12);
                if (what < 3) {
                    b.append(number(0, below(2) == 0 ? 999 : 12));
                } else if (what < 9 || deep > 7) {
                    b.append(new String[] {"brine", "salt", "reach", "side", "hour", "day", "col", "row"}[below(8)]);
                } else if (what < 10) {
                    b.append('(').append(lawText(deep + 1)).append(')');
                } else {
                    b.append(below(2) == 0 ? "least" : "most").append(maybe()).append('[').append(lawText(deep + 1))
                        .append(',').append(lawText(deep + 1)).append(']');
                }
                b.append(maybe());
                if (i > 1) {
                    b.append("+-*/%+-".charAt(below(7)));
                }
            }
            return b.toString();
        }

        String deepLaw() {
            int deep = between(4, 8);
            String law = new String[] {"brine", "7", "day + 2", "salt % 9"}[below(4)];
            for (int i = 0; i < deep; i++) {
                law = below(3) > 0 ? "(" + law + ")" : "most[" + law + "," + below(9) + "]";
            }
            return law + (below(2) == 0 ? "" : "+(((((col)))))");
        }

        String shortLaw() {
            if (below(8) == 0) {
                return deepLaw();
            }
            if (below(4) == 0) {
                // Rates that change from hour to hour and from pan to pan, but bring neither 0 nor 99 alone.
                return "least[brine/" + between(2, 9) + "+1,reach]+(salt+hour*" + below(9) + "+day+col*3)%" + between(2, 20);
            }
            String law = lawText(0);
            for (int i = 0; i < 50 && law.length() > 150; i++) {
                law = lawText(0);
            }
            return law;
        }

        String place() {
            return gap() + number(0, model.w - 1) + gap() + number(0, model.h - 1);
        }

        String steps(int deep, int room) {
            StringBuilder b = new StringBuilder();
            for (int i = between(deep == 0 ? 0 : 0, 7); i > 0 && b.length() < room - 30; i--) {
                b.append(maybe());
                switch (below(9)) {
                    case 0:
                    case 1:
                        b.append("let").append(place()).append(gap()).append(number(1, below(3) == 0 ? 999 : 60));
                        break;
                    case 2:
                    case 3:
                        b.append("rake").append(place()).append(place());
                        break;
                    case 4:
                        b.append("cart").append(place());
                        break;
                    case 5:
                        b.append("rain").append(gap()).append(number(1, below(2) == 0 ? 99 : 9));
                        break;
                    case 6:
                    case 7:
                        b.append("hour");
                        break;
                    default:
                        b.append("again").append(gap()).append(number(0, below(3) == 0 ? 60 : 6)).append(maybe()).append('[')
                            .append(steps(deep + 1, room - b.length() - 12)).append(']');
                }
                b.append(maybe()).append(';');
            }
            return b.toString();
        }

        /** Rakes that can be done, so that heaps come to stand. */
        String rakes() {
            StringBuilder b = new StringBuilder();
            for (int i = 0; i < 40 && b.length() < 120; i++) {
                int[] n = {below(model.w), below(model.h), below(model.w), below(model.h)};
                if (Model.rakes(model.now, n)) {
                    b.append("rake ").append(n[0]).append(' ').append(n[1]).append(' ').append(n[2]).append(' ')
                        .append(n[3]).append(';');
                }
            }
            return b.toString();
        }

        String workText() {
            switch (below(12)) {
                case 0: return "again 60[again " + between(1, 60) + "[hour;];];";
                case 1: return "again 10[again 2[again 1[again 3[again 2[again 2[hour;cart 0 0;];];];];];];";
                case 2: return "again " + below(60) + "[again 60[again 60[again 60[again 60[again 60[];];];];];];hour;";
                case 3: return "again 12[let " + below(model.w) + " " + below(model.h) + " 999;];";
                case 4: {
                    int deep = between(1, 8);
                    return below(2) == 0 ? "again " + between(1, 60) + "[hour;];"
                        : "again 2[".repeat(deep) + "rain 1;" + "];".repeat(deep);
                }
                case 5:
                case 6: return rakes();
                case 7: return "rain " + between(1, 99) + ";" + rakes();
                default: return steps(0, 150);
            }
        }

        String bookText() {
            StringBuilder b = new StringBuilder();
            Grid g = model.now.copy();
            if (below(3) > 0) {
                for (int i = 0; i < 20; i++) {
                    int x = below(model.w);
                    int y = below(model.h);
                    if (model.free(x, y)) {
                        g = model.afterDay(x, y, between(1, 999));
                        break;
                    }
                }
            }
            int most = below(8) == 0 ? 9 : below(5);
            List<Integer> used = new ArrayList<>();
            for (int i = 0; i < most && b.length() < 52; i++) {
                int x = below(model.w);
                int y = below(model.h);
                if (used.contains(10 * y + x) && below(12) > 0) {
                    continue;
                }
                used.add(10 * y + x);
                b.append(maybe()).append(x).append(gap()).append(y).append(gap()).append(g.brine[x][y]).append(maybe()).append(';');
            }
            return b.toString();
        }

        int odd(int a, int b) {
            int k = below(40);
            return k == 0 ? a - 1 : k == 1 ? b + 1 : k == 2 ? a : k == 3 ? b : k == 4 && below(4) == 0
                ? random.nextInt() : a <= b ? between(a, b) : a;
        }

        int x() {
            return odd(0, model.w - 1);
        }

        int y() {
            return odd(0, model.h - 1);
        }

        int anHour() {
            return odd(0, model.hours.size() - 1);
        }

        int z() {
            return below(3) == 0 ? odd(1, 100) : odd(1, 999);
        }

        void go() {
            if (below(4) > 0) {
                text("works", worksText());
            }
            if (below(3) == 0) {
                text("law", shortLaw());
            }
            while (calls < 512 - 45 && wrong < 20) {
                step();
            }
            for (int what = 0; what <= 12; what++) {
                call("told", what);
            }
            for (int what = -1; what <= 3; what++) {
                call("status", what);
                call("count", what);
            }
        }

        void step() {
            int what = below(100);
            if (what < 2 && style == 4) {
                text("work", workText());
            } else if (what < 2) {
                text("works", spoiled(worksText(), 60));
            } else if (what < 5) {
                text("law", spoiled(shortLaw(), 40));
            } else if (what < 13) {
                text("work", spoiled(workText(), 25));
                call("told", 10);
            } else if (what < 18) {
                text("book", spoiled(bookText(), 30));
            } else if (what < 20 && (style != 4 || below(9) == 0)) {
                call("undo");
                call("told", 10);
            } else if (what < 22) {
                call("image");
            } else if (what < 24) {
                call("restore");
                call("told", 10);
            } else if (what == 24) {
                call("feed", random.nextInt(), random.nextInt(), random.nextInt(), random.nextInt(), random.nextInt());
            } else if (what < 35) {
                simple();
            } else if (what < 38) {
                call("told", odd(0, 12));
            } else {
                asked();
            }
        }

        void simple() {
            switch (below(6)) {
                case 0: call("fault"); break;
                case 1: call("status", odd(0, 1)); break;
                case 2: call("count", odd(0, 2)); break;
                case 3: call("pan", x(), y(), odd(0, 6)); break;
                case 4: call("hour", anHour(), odd(0, 2)); break;
                default: call("shade", anHour(), y());
            }
        }

        void asked() {
            switch (below(30)) {
                case 0: call("dries", x(), y(), anHour()); break;
                case 1: call("would", odd(0, 9999), odd(0, 9999), odd(0, 40), odd(0, 7), odd(0, 9), odd(0, 400),
                    odd(0, 7), odd(0, 7)); break;
                case 2: call("ahead", below(2) == 0 ? odd(0, 20) : odd(0, 500), odd(0, 2)); break;
                case 3: call("drying", x(), y()); break;
                case 4: call("first", odd(0, 1)); break;
                case 5: call("site", z(), odd(0, 1)); break;
                case 6: {
                    if (model.w * model.h > 30 && below(8) > 0) {
                        call("relief", odd(0, 1));
                    } else {
                        call("pair", z(), odd(0, 2));
                    }
                    break;
                }
                case 7: call("relief", odd(0, 1)); break;
                case 8: call("way", x(), y(), x(), y()); break;
                case 9:
                case 10: call("fits", z(), odd(0, 1)); break;
                case 11:
                case 12: call("look", z(), odd(0, 1)); break;
                case 13: call("water", x(), y(), odd(0, (1 << model.w) - 1), below(3) == 0 ? odd(0, 99999) : odd(0, 900)); break;
                case 14: call("strongest", odd(0, 1)); break;
                case 15: call("greatest", odd(0, 1)); break;
                case 16: call("cast", x(), y(), anHour()); break;
                case 17: call("ready", x(), y(), y()); break;
                case 18: call("line", odd(0, below(2) == 0 ? model.w - 1 : model.h - 1), odd(0, 3)); break;
                case 19: call("dryland", x(), y()); break;
                case 20: call("mounds", y()); break;
                case 21: call("loss", anHour()); break;
                case 22: call("nearest", x(), y()); break;
                case 23: call("poured", x(), y(), odd(1, 999)); break;
                case 24: call("noon", odd(0, 1)); break;
                case 25: call("summer", random.nextInt(), odd(1, 96), odd(0, 16), odd(0, 3)); break;
                case 26: call("span", random.nextInt(), odd(1, 10), odd(1, 96), odd(0, 16), odd(0, 2), x(), y()); break;
                case 27: call("pan", x(), y(), odd(0, 6)); break;
                case 28: call("hour", anHour(), odd(0, 2)); break;
                default: call("shade", anHour(), y());
            }
        }
    }
}
