import java.math.BigInteger;
import java.util.ArrayDeque;
import java.util.ArrayList;
import java.util.Arrays;
import java.util.Deque;
import java.util.HashSet;
import java.util.List;
import java.util.Set;

/**
 * Long runs of calls, the same at every start, against a second reading of the
 * document that is written another way: TOKENS first, acts undone by copies of
 * all, every row and set tried out, KINDS as classes.
 */
public final class ModelTest {
    private static final int NONE = -1000000, BAD = -1000001, STATE = -1000002, FULL = -1000003;
    private static final int RUNS = 6000, CALLS = 512, MOST_SHOWN = 20;

    private static long seed;
    private static int wrong;
    private static long calls;

    public static void main(String[] args) {
        for (int run = 0; run < RUNS; run++) {
            seed = 77 + 1000003L * run;
            new Run(run).go();
        }
        System.out.println(calls + " calls, " + wrong + " answers not as due");
        if (wrong != 0) System.exit(1);
    }

    private static int any(int below) {
        seed = seed * 6364136223846793005L + 1442695040888963407L;
        return (int) ((seed >>> 33) % below);
    }

    /** One of 0 .. n, now and then a little beyond, or far. */
    private static int about(int n) {
        switch (any(24)) {
            case 0: return -1;
            case 1: return n + 1;
            case 2: return any(4) == 0 ? Integer.MIN_VALUE : any(2) == 0 ? Integer.MAX_VALUE : -any(1000);
            default: return n < 0 ? 0 : any(n + 1);
        }
    }

    // ---- a run

    private static final class Run {
        private final int number;
        private final AgingLetters x = new AgingLetters();
        private final Model m = new Model();
        private final StringBuilder told = new StringBuilder();
        private int left = CALLS;

        Run(int number) {
            this.number = number;
        }

        void go() {
            if (number % 4 == 1) {
                manyActs();
                return;
            }
            if (any(10) > 0) feedText(any(12) == 0 ? brokenText() : text());
            while (left > 0 && wrong < MOST_SHOWN) step();
        }

        /** More acts than are kept, and then more undone than there are. */
        private void manyActs() {
            feedText(text());
            while (left > 0 && wrong < MOST_SHOWN) {
                for (int i = any(50); i > 0 && left > 0; i--) actStep(any(11) == 0 ? 9 : any(7));
                for (int i = any(40); i > 0 && left > 0; i--) {
                    actStep(9);
                    if (i % 4 == 0) askStep();
                }
            }
        }

        private void same(String call, int want, int got) {
            calls++;
            left--;
            told.append(call).append(' ');
            if (want == got) return;
            wrong++;
            System.out.println("run " + number + ": " + call + " answered " + got + ", due is " + want
                    + "\n  behind " + told);
        }

        private void feedText(String text) {
            if (text.length() + 3 > left) return;
            for (int i = 0; i < text.length(); i++) feed(text.charAt(i));
            same("office()", m.office(), x.office());
            same("fault()", m.fault, x.fault());
        }

        private void feed(int letter) {
            same("feed(" + letter + ")", m.feed(letter), x.feed(letter));
        }

        private String text() {
            int law = any(3) == 0 ? 999 : 1 + any(150);
            StringBuilder s = new StringBuilder("o").append(law).append(';');
            int letters = any(3) == 0 ? 6 : any(7);
            int most = any(2) == 0 ? 40 : 6;
            for (int i = 0; i < letters; i++) {
                s.append("pvlfs".charAt(any(5))).append(1 + any(most)).append(',').append(1 + any(99)).append(';');
            }
            int readers = any(3) == 0 ? 4 : any(5);
            for (int i = 0; i < readers; i++) {
                int age = any(100);
                int span = any(4) == 0 ? 999 : age + 1 + any(any(2) == 0 ? 25 : 120);
                s.append('r').append(age).append(',').append(span).append(';');
            }
            return s.toString();
        }

        private String brokenText() {
            StringBuilder s = new StringBuilder(text());
            int changes = 1 + any(3);
            String signs = "opvlfsr,;0123456789 xA";
            for (int i = 0; i < changes && s.length() > 0; i++) {
                int at = any(s.length());
                char sign = any(20) == 0 ? (char) any(256) : signs.charAt(any(signs.length()));
                switch (any(4)) {
                    case 0: s.setCharAt(at, sign); break;
                    case 1: s.insert(at, sign); break;
                    case 2: s.deleteCharAt(at); break;
                    default: s.setLength(at);
                }
            }
            return s.toString();
        }

        private void step() {
            int turn = any(100);
            if (turn < 1) {
                feedText(any(3) == 0 ? text() : brokenText());
            } else if (turn < 20) {
                rowStep();
            } else if (turn < 45) {
                actStep(any(12));
            } else if (turn < 80) {
                foretoldStep();
            } else {
                askStep();
            }
        }

        private int r() {
            return about(m.o == null ? -1 : m.o.readers.size() - 1);
        }

        private int l() {
            return about(m.o == null ? -1 : m.o.letters.size() - 1);
        }

        private void rowStep() {
            int a = about(any(2) == 0 ? 7 : 2), i = about(any(2) == 0 ? 39 : 4);
            switch (any(6)) {
                case 0: {
                    int lane = about(2), n = about(any(2) == 0 ? 40 : 7);
                    same("row(" + a + "," + lane + "," + n + ")", m.row(a, lane, n), x.row(a, lane, n));
                    break;
                }
                case 1: case 2: {
                    int v = any(3) == 0 ? any(120) : (int) seed;
                    same("set(" + a + "," + i + "," + v + ")", m.set(a, i, v), x.set(a, i, v));
                    break;
                }
                case 3: {
                    int b = any(3) == 0 ? a : about(7), j = about(4), n = about(any(2) == 0 ? 20 : 3);
                    same("copy(" + a + "," + i + "," + b + "," + j + "," + n + ")",
                            m.copy(a, i, b, j, n), x.copy(a, i, b, j, n));
                    break;
                }
                case 4:
                    if (any(4) == 0) same("drop(" + a + ")", m.drop(a), x.drop(a));
                    break;
                default:
                    agesStep(a, i);
            }
            same("status()", m.finding, x.status());
        }

        /** A ROW of ages that can be so, more often than not. */
        private void agesStep(int row, int i) {
            int r = r(), n = about(6);
            if (m.o != null && r >= 0 && r < m.o.readers.size() && left > 12 && any(5) > 0) {
                row = any(3);
                i = any(2);
                int lane = 1 + any(2);
                same("row", m.row(row, lane, 8), x.row(row, lane, 8));
                int age = m.o.readers.get(r).first;
                for (int k = 0; k < 6; k++) {
                    if (any(2) == 0 && !m.o.letters.isEmpty()) {
                        age += m.o.letters.get(any(m.o.letters.size())).first();
                    }
                    same("set(" + row + "," + (i + k) + "," + age + ")", m.set(row, i + k, age), x.set(row, i + k, age));
                    age++;
                }
            }
            same("ages(" + r + "," + row + "," + i + "," + n + ")", m.ages(r, row, i, n), x.ages(r, row, i, n));
        }

        private void actStep(int which) {
            int r = r(), l = l(), k = about(1);
            switch (which) {
                case 0: case 1: case 2:
                    same("read(" + r + "," + l + ")", m.aloud(r, 0, l), x.read(r, l));
                    break;
                case 3: case 4: {
                    int others = any(3) == 0 ? about(15) : any(16) & ~(1 << (r & 3)) & (m.count(2) == 4 ? 15 : 7);
                    same("aloud(" + r + "," + others + "," + l + ")", m.aloud(r, others, l), x.aloud(r, others, l));
                    break;
                }
                case 5: {
                    int n = any(2) == 0 ? about(3) : about(39);
                    same("cross(" + l + "," + n + ")", m.cross(l, n), x.cross(l, n));
                    break;
                }
                case 6:
                    same("day()", m.day(), x.day());
                    break;
                case 7: case 8: case 9:
                    same("undo()", m.undo(), x.undo());
                    break;
                case 10:
                    same("image(" + k + ")", m.image(k), x.image(k));
                    break;
                default:
                    if (any(3) == 0) same("restore(" + k + ")", m.restore(k), x.restore(k));
            }
        }

        private void foretoldStep() {
            int r = r(), l = l(), what = about(1);
            switch (any(12)) {
                case 0: same("costs(" + r + "," + l + ")", m.costs(r, l), x.costs(r, l)); break;
                case 1: same("best(" + l + ")", m.best(l), x.best(l)); break;
                case 2: {
                    int k = any(3) == 0 ? -1 : any(30) == 0 ? -2 : l;
                    same("allRead(" + k + ")", m.allRead(k), x.allRead(k));
                    break;
                }
                case 3: same("bestAloud(" + l + "," + what + ")", m.bestAloud(l, what), x.bestAloud(l, what)); break;
                case 4: same("kills(" + r + ")", m.kills(r), x.kills(r)); break;
                case 5: same("post(" + r + "," + what + ")", m.post(r, what), x.post(r, what)); break;
                case 6: same("crossOut(" + r + "," + l + ")", m.crossOut(r, l), x.crossOut(r, l)); break;
                case 7: same("dies(" + r + ")", m.dies(r), x.dies(r)); break;
                case 8: {
                    int d = about(99);
                    same("late(" + d + ")", m.late(d), x.late(d));
                    break;
                }
                case 9: case 10: {
                    int age = any(3) == 0 ? about(999) : about(130);
                    same("soOld(" + r + "," + age + "," + what + ")", m.soOld(r, age, what), x.soOld(r, age, what));
                    break;
                }
                default: {
                    int c = about(10);
                    same("burnt(" + r + "," + c + "," + what + ")", m.burnt(r, c, what), x.burnt(r, c, what));
                }
            }
        }

        private void askStep() {
            int r = r(), l = l(), what = about(1), which;
            switch (any(8)) {
                case 0: same("kind(" + l + ")", m.kind(l), x.kind(l)); break;
                case 1:
                    which = about(5);
                    same("as(" + l + "," + which + ")", m.as(l, which), x.as(l, which));
                    same("status()", m.finding, x.status());
                    break;
                case 2:
                    same("ask(" + l + "," + what + ")", m.ask(l, what), x.ask(l, what));
                    for (int i = 0; i < 7; i++) same("trace(" + i + ")", m.traced(i), x.trace(i));
                    break;
                case 3:
                    which = about(8);
                    same("trace(" + which + ")", m.traced(which), x.trace(which));
                    break;
                case 4:
                    which = about(5);
                    same("reader(" + r + "," + which + ")", m.reader(r, which), x.reader(r, which));
                    break;
                case 5:
                    which = about(3);
                    same("letter(" + l + "," + which + ")", m.letter(l, which), x.letter(l, which));
                    break;
                case 6:
                    which = about(8);
                    same("count(" + which + ")", m.count(which), x.count(which));
                    break;
                default:
                    if (any(6) == 0) feed(any(8) == 0 ? any(600) - 200 : "o19;p,r".charAt(any(7)));
                    same("status()", m.finding, x.status());
            }
        }
    }

    // ---- the second reading

    private interface Letterlike {
        default int size(Letter it) { it.trace.add(10); return it.pages; }
        default int mark(Letter it) { it.trace.add(20); return it.number; }
        default int cost(int pages) { return 0; }
    }

    private static class Prose implements Letterlike {
        @Override public int size(Letter it) {
            it.trace.add(11);
            int given = Letterlike.super.size(it);
            return given + mark(it);
        }
        @Override public int mark(Letter it) { it.trace.add(21); return Letterlike.super.mark(it) + it.times(); }
        @Override public int cost(int pages) { return pages; }
    }

    private static final class Verse extends Prose {
        @Override public int size(Letter it) { it.trace.add(12); return 0 - super.size(it); }
        @Override public int mark(Letter it) { it.trace.add(24); return 2 * super.mark(it); }
        @Override public int cost(int pages) { return pages * 3; }
    }

    private static final class Love extends Prose {
        @Override public int mark(Letter it) { it.trace.add(22); return super.mark(it) - 1000; }
        @Override public int cost(int pages) { return up(pages, 2); }
    }

    private static class Figures implements Letterlike {
        @Override public int size(Letter it) { it.trace.add(13); return Letterlike.super.size(it) - 100; }
        @Override public int mark(Letter it) {
            it.trace.add(23);
            int given = Letterlike.super.mark(it);
            return given - size(it);
        }
    }

    private static final class Sealed extends Figures {
        @Override public int size(Letter it) { it.trace.add(14); return 2 * super.size(it); }
        @Override public int cost(int pages) { return up(pages, 10); }
    }

    private static int up(int a, int b) {
        return a % b == 0 ? a / b : a / b + 1;
    }

    private static final class Letter {
        int number, pages, due;
        Letterlike kind;
        List<Integer> readings = new ArrayList<>();
        List<Integer> trace = new ArrayList<>();

        int times() {
            return readings.size();
        }

        int first() {
            return kind.cost(pages);
        }

        int cost(int reader, int pageCount) {
            int full = kind.cost(pageCount);
            return readings.contains(reader) ? up(full, 2) : full;
        }

        int cost(int reader) {
            return cost(reader, pages);
        }
    }

    private static final class Reader {
        int first, age, span;
        Set<Integer> heard = new HashSet<>();

        boolean alive() {
            return age < span;
        }
    }

    private static final class Office {
        int retires, day;
        List<Letter> letters = new ArrayList<>();
        List<Reader> readers = new ArrayList<>();

        Office copy() {
            Office c = new Office();
            c.retires = retires;
            c.day = day;
            for (Letter l : letters) {
                Letter n = new Letter();
                n.number = l.number;
                n.pages = l.pages;
                n.due = l.due;
                n.kind = l.kind;
                n.readings = new ArrayList<>(l.readings);
                c.letters.add(n);
            }
            for (Reader r : readers) {
                Reader n = new Reader();
                n.first = r.first;
                n.age = r.age;
                n.span = r.span;
                n.heard = new HashSet<>(r.heard);
                c.readers.add(n);
            }
            return c;
        }

        boolean fit(int r) {
            return readers.get(r).alive() && readers.get(r).age < retires;
        }
    }

    private static final class Model {
        Office o;
        final Office[] images = new Office[2];
        final Deque<Office> past = new ArrayDeque<>();
        final StringBuilder tape = new StringBuilder();
        int fault, finding;
        final int[][] rows = new int[8][];
        final int[] lanes = new int[8];
        List<Integer> trace = new ArrayList<>();

        // rows

        private int find(int n) {
            finding = n;
            return -1000010 - n;
        }

        private int fine(int v) {
            finding = 0;
            return v;
        }

        int row(int row, int lane, int n) {
            if (row < 0 || row > 7 || lane < 0 || lane > 2 || n > 40) return BAD;
            if (n < 0) return find(4);
            rows[row] = new int[n];
            lanes[row] = lane;
            return fine(n);
        }

        int set(int row, int i, int v) {
            if (row < 0 || row > 7) return BAD;
            if (rows[row] == null) return find(1);
            if (i < 0 || i >= rows[row].length) return find(2);
            int drop = 32 - (8 << lanes[row]);
            rows[row][i] = v << drop >> drop;
            return fine(rows[row][i]);
        }

        int copy(int a, int i, int b, int j, int n) {
            if (a < 0 || a > 7 || b < 0 || b > 7) return BAD;
            if (rows[a] == null || rows[b] == null) return find(1);
            if (lanes[a] != lanes[b]) return find(5);
            if (i < 0 || j < 0 || n < 0) return find(2);
            if ((long) i + n > rows[a].length || (long) j + n > rows[b].length) return find(2);
            int[] ahead = rows[a].clone();
            for (int k = 0; k < n; k++) rows[b][j + k] = ahead[i + k];
            return fine(n);
        }

        int drop(int row) {
            if (row < 0 || row > 7) return BAD;
            if (rows[row] == null) return find(1);
            int n = rows[row].length;
            rows[row] = null;
            return fine(n);
        }

        int ages(int r, int row, int i, int n) {
            if (noReader(r) || row < 0 || row > 7 || n < 1 || n > 6) return BAD;
            if (rows[row] == null) return find(1);
            if (i < 0 || (long) i + n > rows[row].length) return find(2);
            return fine((int) rowsOfReading(Arrays.copyOfRange(rows[row], i, i + n), 0, o.readers.get(r).first,
                    new ArrayList<>()));
        }

        private long rowsOfReading(int[] told, int day, long age, List<Letter> done) {
            if (day == told.length) return 1;
            long ways = 0;
            if (age == told[day]) ways += rowsOfReading(told, day + 1, age + 1, done);
            for (Letter l : o.letters) {
                if (done.contains(l) || age + l.first() != told[day]) continue;
                done.add(l);
                ways += rowsOfReading(told, day + 1, age + l.first() + 1, done);
                done.remove(l);
            }
            return ways;
        }

        // offices

        int feed(int letter) {
            if (letter < 0 || letter > 255) return BAD;
            if (tape.length() == 120) return FULL;
            tape.append((char) letter);
            return tape.length();
        }

        /** TOKENS as {first byte, sort, value}: sort a letter or sign itself, 0 a NUMBER, -1 none, -2 the end. */
        private List<int[]> tokens() {
            List<int[]> all = new ArrayList<>();
            int at = 0;
            while (at < tape.length()) {
                char c = tape.charAt(at);
                if (c >= '0' && c <= '9') {
                    int end = at;
                    while (end < tape.length() && tape.charAt(end) >= '0' && tape.charAt(end) <= '9') end++;
                    boolean one = end - at <= 3;
                    all.add(new int[] {at, one ? 0 : -1, one ? Integer.parseInt(tape.substring(at, end)) : 0});
                    at = end;
                } else {
                    boolean one = c >= 'a' && c <= 'z' || c == ',' || c == ';';
                    all.add(new int[] {at, one ? c : -1, 0});
                    at++;
                }
            }
            all.add(new int[] {tape.length(), -2, 0});
            return all;
        }

        int office() {
            List<int[]> tokens = tokens();
            Office n = new Office();
            // What is awaited: one sign each, 0 a NUMBER, * the next part or the end.
            String part = "o\0;";
            int inPart = 0, first = 0;
            int[] wrong = null;
            for (int[] t : tokens) {
                if (inPart == part.length()) {
                    part = next(t, n);
                    inPart = 0;
                    if (part == null) {
                        wrong = new int[] {t[0], 1};
                        break;
                    }
                    if (part.isEmpty()) break;
                    if (part.equals("!")) {
                        wrong = new int[] {t[0], 3};
                        break;
                    }
                }
                if (part.charAt(inPart) != t[1] || t[1] < 0) {
                    wrong = new int[] {t[0], 1};
                    break;
                }
                if (t[1] == 0 && !good(part.charAt(0), inPart, first, t[2])) {
                    wrong = new int[] {t[0], 2};
                    break;
                }
                if (inPart == 1) first = t[2];
                if (t[1] == 0) take(n, part.charAt(0), inPart, first, t[2]);
                inPart++;
            }
            tape.setLength(0);
            if (wrong != null) {
                fault = wrong[1];
                return -1000100 - wrong[0];
            }
            o = n;
            past.clear();
            return o.readers.size();
        }

        private static String next(int[] t, Office n) {
            if (t[1] == -2) return "";
            if (t[1] == 'r') return n.readers.size() == 4 ? "!" : "r\0,\0;";
            if (t[1] <= 0 || "pvlfs".indexOf(t[1]) < 0 || !n.readers.isEmpty()) return null;
            return n.letters.size() == 6 ? "!" : (char) t[1] + "\0,\0;";
        }

        private static boolean good(char part, int at, int first, int v) {
            if (part == 'o') return v >= 1;
            if (part == 'r') return at == 1 ? v <= 99 : v > first;
            return v >= 1 && v <= (at == 1 ? 40 : 99);
        }

        private static void take(Office n, char part, int at, int first, int v) {
            if (part == 'o') {
                n.retires = v;
            } else if (at == 3 && part == 'r') {
                Reader r = new Reader();
                r.first = first;
                r.age = first;
                r.span = v;
                n.readers.add(r);
            } else if (at == 3) {
                Letter l = new Letter();
                l.number = n.letters.size();
                l.pages = first;
                l.due = v;
                Letterlike[] kinds = {new Prose(), new Verse(), new Love(), new Figures(), new Sealed()};
                l.kind = kinds["pvlfs".indexOf(part)];
                n.letters.add(l);
            }
        }

        private boolean noReader(int r) {
            return o == null || r < 0 || r >= o.readers.size();
        }

        private boolean noLetter(int l) {
            return o == null || l < 0 || l >= o.letters.size();
        }

        private void act() {
            past.push(o.copy());
            if (past.size() > 24) past.removeLast();
        }

        int aloud(int r, int others, int l) {
            if (noReader(r) || noLetter(l)) return BAD;
            List<Reader> hear = new ArrayList<>();
            for (int k = 0; k < 32; k++) {
                if ((others & 1 << k) == 0) continue;
                if (k == r || noReader(k)) return BAD;
                hear.add(o.readers.get(k));
            }
            if (!o.fit(r)) return STATE;
            for (Reader h : hear) if (!h.alive()) return STATE;
            act();
            Reader one = o.readers.get(r);
            Letter it = o.letters.get(l);
            int cost = it.cost(r);
            one.age += cost;
            if (one.alive()) it.readings.add(r);
            for (Reader h : hear) {
                h.heard.add(l);
                h.age += up(cost, 10);
            }
            return one.age;
        }

        int cross(int l, int n) {
            if (noLetter(l) || n < 1 || n > 39) return BAD;
            if (o.letters.get(l).pages < n + 1) return STATE;
            act();
            return o.letters.get(l).pages -= n;
        }

        int day() {
            if (o == null) return STATE;
            if (o.day == 999) return FULL;
            act();
            for (Reader r : o.readers) r.age++;
            return ++o.day;
        }

        int undo() {
            if (past.isEmpty()) return STATE;
            o = past.pop();
            return past.size();
        }

        int image(int k) {
            if (k < 0 || k > 1) return BAD;
            if (o == null) return STATE;
            images[k] = o.copy();
            return 1;
        }

        int restore(int k) {
            if (k < 0 || k > 1) return BAD;
            if (images[k] == null) return STATE;
            o = images[k].copy();
            past.clear();
            return 1;
        }

        int reader(int r, int what) {
            if (noReader(r) || what < 0 || what > 5) return BAD;
            Reader it = o.readers.get(r);
            if (what == 0) return it.age;
            if (what == 1) return it.span;
            if (what == 2) return it.alive() ? 1 : 0;
            if (what == 3) return o.fit(r) ? 1 : 0;
            int bits = 0;
            for (Letter l : o.letters) {
                if (what == 4 ? l.readings.contains(r) : it.heard.contains(l.number)) bits += 1 << l.number;
            }
            return bits;
        }

        int letter(int l, int what) {
            if (noLetter(l) || what < 0 || what > 3) return BAD;
            Letter it = o.letters.get(l);
            if (what == 0) return it.pages;
            if (what == 1) return it.due;
            if (what == 2) return it.times();
            int bits = 0;
            for (int r : new HashSet<>(it.readings)) bits += 1 << r;
            return bits;
        }

        int costs(int r, int l) {
            return noReader(r) || noLetter(l) ? BAD : o.letters.get(l).cost(r);
        }

        // foretold

        int best(int l) {
            if (noLetter(l)) return BAD;
            int best = NONE, most = Integer.MIN_VALUE;
            for (int r = 0; r < o.readers.size(); r++) {
                Reader it = o.readers.get(r);
                int then = it.age + o.letters.get(l).cost(r);
                if (!o.fit(r) || then >= it.span) continue;
                if (it.span - then > most) {
                    best = r;
                    most = it.span - then;
                }
            }
            return best;
        }

        int allRead(int k) {
            if (o == null) return STATE;
            if (k < -1 || k >= o.letters.size()) return BAD;
            List<Letter> unread = new ArrayList<>();
            for (Letter l : o.letters) if (l.readings.isEmpty()) unread.add(l);
            int[] best = null;
            int least = Integer.MAX_VALUE;
            int n = o.readers.size();
            long all = 1;
            for (int i = 0; i < unread.size(); i++) all *= n;
            for (long which = 0; which < all; which++) {
                int[] who = new int[unread.size()];
                long rest = which;
                for (int i = who.length - 1; i >= 0; i--) {
                    who[i] = (int) (rest % n);
                    rest /= n;
                }
                int spent = spent(unread, who);
                if (spent >= 0 && spent < least) {
                    least = spent;
                    best = who;
                }
            }
            if (best == null) return NONE;
            if (k == -1) return least;
            int at = unread.indexOf(o.letters.get(k));
            return at < 0 ? NONE : best[at];
        }

        private int spent(List<Letter> unread, int[] who) {
            int[] each = new int[4];
            int sum = 0;
            for (int i = 0; i < who.length; i++) {
                if (!o.fit(who[i])) return -1;
                int cost = unread.get(i).cost(who[i]);
                each[who[i]] += cost;
                sum += cost;
            }
            for (int r : who) if (o.readers.get(r).age + each[r] >= o.readers.get(r).span) return -1;
            return sum;
        }

        int bestAloud(int l, int what) {
            if (noLetter(l) || what < 0 || what > 1) return BAD;
            int who = NONE, least = Integer.MAX_VALUE;
            for (int r = 0; r < o.readers.size(); r++) {
                int cost = o.letters.get(l).cost(r);
                if (!o.fit(r) || o.readers.get(r).age + cost >= o.readers.get(r).span) continue;
                int spent = cost;
                for (int h = 0; h < o.readers.size(); h++) {
                    if (h != r && o.readers.get(h).alive()) spent += up(cost, 10);
                }
                if (spent < least) {
                    who = r;
                    least = spent;
                }
            }
            return who == NONE ? NONE : what == 0 ? who : least;
        }

        int kills(int r) {
            if (noReader(r)) return BAD;
            Reader it = o.readers.get(r);
            if (!it.alive()) return STATE;
            for (int pages = 1; pages <= 40; pages++) {
                for (Letter l : o.letters) {
                    if (l.pages == pages && it.age + l.cost(r) >= it.span) return l.number;
                }
            }
            return NONE;
        }

        int post(int r, int what) {
            if (noReader(r) || what < 0 || what > 1) return BAD;
            Reader it = o.readers.get(r);
            if (!it.alive()) return STATE;
            for (int many = 0; many <= o.letters.size(); many++) {
                for (int set = 0; set < 1 << o.letters.size(); set++) {
                    int sum = it.age;
                    for (Letter l : o.letters) if ((set >> l.number) % 2 == 1) sum += l.cost(r);
                    if (Integer.bitCount(set) == many && sum >= it.span) return what == 0 ? many : set;
                }
            }
            return NONE;
        }

        int crossOut(int r, int l) {
            if (noReader(r) || noLetter(l)) return BAD;
            Reader it = o.readers.get(r);
            if (!it.alive()) return STATE;
            int fewest = NONE;
            for (int stay = 1; stay <= o.letters.get(l).pages; stay++) {
                if (it.age + o.letters.get(l).cost(r, stay) < it.span) fewest = o.letters.get(l).pages - stay;
            }
            return fewest;
        }

        int dies(int r) {
            if (noReader(r)) return BAD;
            Reader it = o.readers.get(r);
            if (!it.alive()) return NONE;
            int day = o.day;
            for (int age = it.age; age < it.span; age++) day++;
            return day;
        }

        int late(int d) {
            if (o == null) return STATE;
            if (d < 0 || d > 99) return BAD;
            int bits = 0;
            for (Letter l : o.letters) if (l.readings.isEmpty() && l.due < o.day + d) bits += 1 << l.number;
            return bits;
        }

        int soOld(int r, int age, int what) {
            if (noReader(r) || age < 0 || age > 999 || what < 0 || what > 1) return BAD;
            int many = 0, least = NONE;
            for (int set = (1 << o.letters.size()) - 1; set >= 0; set--) {
                int then = o.readers.get(r).first + o.day;
                for (Letter l : o.letters) if ((set >> l.number) % 2 == 1) then += l.first();
                if (then != age) continue;
                many++;
                least = set;
            }
            return what == 0 ? many : least;
        }

        int burnt(int r, int c, int what) {
            if (noReader(r) || c < 0 || c > 10 || what < 0 || what > 1) return BAD;
            Reader it = o.readers.get(r);
            if (!it.alive()) return STATE;
            List<Letter> unread = new ArrayList<>();
            for (Letter l : o.letters) if (l.readings.isEmpty()) unread.add(l);
            BigInteger above = living(unread, 0, it.span - it.age, c, r);
            BigInteger below = BigInteger.TEN.pow(unread.size());
            BigInteger common = above.gcd(below);
            return (what == 0 ? above : below).divide(common).intValueExact();
        }

        private BigInteger living(List<Letter> unread, int at, int daysLeft, int c, int r) {
            if (daysLeft <= 0) return BigInteger.ZERO;
            if (at == unread.size()) return BigInteger.ONE;
            BigInteger burns = living(unread, at + 1, daysLeft, c, r);
            BigInteger stays = living(unread, at + 1, daysLeft - unread.get(at).cost(r), c, r);
            return burns.multiply(BigInteger.valueOf(c)).add(stays.multiply(BigInteger.valueOf(10 - c)));
        }

        // asked

        int kind(int l) {
            if (noLetter(l)) return BAD;
            Letterlike k = o.letters.get(l).kind;
            return k instanceof Verse ? 2 : k instanceof Love ? 3 : k instanceof Prose ? 1 : k instanceof Sealed ? 5 : 4;
        }

        int as(int l, int kind) {
            if (noLetter(l) || kind < 0 || kind > 5) return BAD;
            Class<?>[] kinds = {Letterlike.class, Prose.class, Verse.class, Love.class, Figures.class, Sealed.class};
            return kinds[kind].isInstance(o.letters.get(l).kind) ? fine(l) : find(3);
        }

        int ask(int l, int what) {
            if (noLetter(l) || what < 0 || what > 1) return BAD;
            Letter it = o.letters.get(l);
            it.trace = new ArrayList<>();
            int answer = what == 0 ? it.kind.size(it) : it.kind.mark(it);
            trace = it.trace;
            return answer;
        }

        int traced(int i) {
            return i >= 0 && i < Math.min(16, trace.size()) ? trace.get(i) : NONE;
        }

        int count(int what) {
            int n = 0;
            switch (what) {
                case 0: for (int[] row : rows) if (row != null) n++; return n;
                case 7: return past.size();
                case 8: return tape.length();
                default: if (what < 0 || what > 8) return BAD;
            }
            if (o == null) return 0;
            if (what == 1) return o.letters.size();
            if (what == 2) return o.readers.size();
            if (what == 3) return o.day;
            for (int r = 0; r < o.readers.size(); r++) {
                if (what == 4 && o.readers.get(r).alive() || what == 5 && o.fit(r)) n++;
            }
            for (Letter l : o.letters) if (what == 6 && l.readings.isEmpty()) n++;
            return n;
        }
    }
}
