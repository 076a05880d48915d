import java.util.Arrays;

/**
 * Letters that age: whoever reads here grows older by what is read. The words
 * in capitals are those of the document, ../shared/DOC.md; the face below
 * looks at every number it is given, what stands behind it takes them as good.
 */
public final class AgingLetters {
    public static final int NONE = -1000000, BAD = -1000001, STATE = -1000002, FULL = -1000003;

    /** The answers of FINDINGS and FAULTS, ahead of what is taken from them. */
    private static final int FINDING = -1000010, FAULT = -1000100;
    private static final int NULL = 1, PLACE = 2, KIND = 3, SIZE = 4, STORE = 5;
    private static final int CANNOT_STAND = 1, NOT_AS_TOLD = 2, NO_ROOM = 3;
    private static final int LETTER = 0, PROSE = 1, VERSE = 2, LOVE = 3, FIGURES = 4, SEALED = 5;
    private static final int MOST_LETTERS = 6, MOST_READERS = 4;
    private static final int MOST_PAGES = 40, MOST_DUE = 99, MOST_FIRST_AGE = 99, MOST_AGE = 999;
    private static final int LAST_DAY = 999;
    private static final int MOST_TOLD = 6;

    private final Rows rows = new Rows();
    private final Tape tape = new Tape();
    private final Office now = new Office();
    private final Office draft = new Office();
    private final Office firstImage = new Office();
    private final Office secondImage = new Office();
    private final Acts acts = new Acts();
    private final Foretold foretold = new Foretold();
    private final Asks asks = new Asks();
    private int latestFault;
    private int latestFinding;

    public AgingLetters() {
    }

    // ---- rows

    public int row(int row, int lane, int n) {
        if (!rows.isRow(row) || !rows.isLane(lane) || n > Rows.MOST_ITEMS) return BAD;
        if (n < 0) return found(SIZE);
        rows.make(row, lane, n);
        return foundNothing(n);
    }

    public int set(int row, int i, int v) {
        if (!rows.isRow(row)) return BAD;
        if (rows.isMissing(row)) return found(NULL);
        if (!rows.hasPlaces(row, i, 1)) return found(PLACE);
        return foundNothing(rows.put(row, i, v));
    }

    public int copy(int a, int i, int b, int j, int n) {
        if (!rows.isRow(a) || !rows.isRow(b)) return BAD;
        if (rows.isMissing(a) || rows.isMissing(b)) return found(NULL);
        if (!rows.haveOneLane(a, b)) return found(STORE);
        if (!rows.hasPlaces(a, i, n) || !rows.hasPlaces(b, j, n)) return found(PLACE);
        rows.move(a, i, b, j, n);
        return foundNothing(n);
    }

    public int drop(int row) {
        if (!rows.isRow(row)) return BAD;
        if (rows.isMissing(row)) return found(NULL);
        return foundNothing(rows.remove(row));
    }

    // ---- offices, acts

    public int feed(int letter) {
        if (letter < 0 || letter > 255) return BAD;
        if (tape.isFull()) return FULL;
        return tape.append(letter);
    }

    public int office() {
        int wrong = tape.readInto(draft);
        tape.empty();
        if (wrong != 0) {
            latestFault = wrong;
            return FAULT - tape.place;
        }
        now.becomes(draft);
        acts.forgetAll();
        return now.readerCount;
    }

    public int fault() {
        return latestFault;
    }

    public int read(int reader, int letter) {
        if (!now.hasReader(reader) || !now.hasLetter(letter)) return BAD;
        if (!now.isFit(reader)) return STATE;
        acts.letRead(now, reader, letter, 0);
        return now.age[reader];
    }

    public int aloud(int reader, int others, int letter) {
        if (!now.hasReader(reader) || !now.hasLetter(letter)) return BAD;
        if (!now.hasReaders(others) || inSet(others, reader)) return BAD;
        if (!now.isFit(reader) || !now.areAlive(others)) return STATE;
        acts.letRead(now, reader, letter, others);
        return now.age[reader];
    }

    public int cross(int letter, int n) {
        if (!now.hasLetter(letter) || n < 1 || n >= MOST_PAGES) return BAD;
        if (now.pages[letter] <= n) return STATE;
        acts.letCross(now, letter, n);
        return now.pages[letter];
    }

    public int day() {
        if (!now.stands) return STATE;
        if (now.today >= LAST_DAY) return FULL;
        acts.letDayGo(now);
        return now.today;
    }

    public int undo() {
        if (acts.kept == 0) return STATE;
        acts.takeBack(now);
        return acts.kept;
    }

    public int reader(int reader, int what) {
        if (!now.hasReader(reader)) return BAD;
        switch (what) {
            case 0: return now.age[reader];
            case 1: return now.span[reader];
            case 2: return now.isAlive(reader) ? 1 : 0;
            case 3: return now.isFit(reader) ? 1 : 0;
            case 4: return now.lettersReadBy(reader);
            case 5: return now.heard[reader];
            default: return BAD;
        }
    }

    public int letter(int letter, int what) {
        if (!now.hasLetter(letter)) return BAD;
        switch (what) {
            case 0: return now.pages[letter];
            case 1: return now.due[letter];
            case 2: return now.timesReadByAll(letter);
            case 3: return now.readersOf(letter);
            default: return BAD;
        }
    }

    public int costs(int reader, int letter) {
        if (!now.hasReader(reader) || !now.hasLetter(letter)) return BAD;
        return now.costFor(reader, letter);
    }

    // ---- foretold

    public int best(int letter) {
        if (!now.hasLetter(letter)) return BAD;
        return foretold.bestReader(now, letter);
    }

    public int allRead(int k) {
        if (!now.stands) return STATE;
        if (k != -1 && !now.hasLetter(k)) return BAD;
        if (!foretold.handsOutAll(now)) return NONE;
        return k == -1 ? now.firstCostOf(now.unreadLetters()) : foretold.taker[k];
    }

    public int bestAloud(int letter, int what) {
        if (!now.hasLetter(letter) || !isChoice(what)) return BAD;
        int who = foretold.bestReaderAloud(now, letter);
        if (who == NONE || what == 0) return who;
        return foretold.spentAloud(now, who, letter);
    }

    public int kills(int reader) {
        if (!now.hasReader(reader)) return BAD;
        if (!now.isAlive(reader)) return STATE;
        return foretold.shortestDeadly(now, reader);
    }

    public int post(int reader, int what) {
        if (!now.hasReader(reader) || !isChoice(what)) return BAD;
        if (!now.isAlive(reader)) return STATE;
        int which = foretold.smallestDeadlySet(now, reader);
        if (which == NONE || what == 1) return which;
        return Integer.bitCount(which);
    }

    public int crossOut(int reader, int letter) {
        if (!now.hasReader(reader) || !now.hasLetter(letter)) return BAD;
        if (!now.isAlive(reader)) return STATE;
        return foretold.fewestToCross(now, reader, letter);
    }

    public int dies(int reader) {
        if (!now.hasReader(reader)) return BAD;
        if (!now.isAlive(reader)) return NONE;
        return now.today + now.span[reader] - now.age[reader];
    }

    public int late(int d) {
        if (!now.stands) return STATE;
        if (d < 0 || d > 99) return BAD;
        return now.unreadDueAhead(now.today + d);
    }

    public int soOld(int reader, int age, int what) {
        if (!now.hasReader(reader) || age < 0 || age > MOST_AGE || !isChoice(what)) return BAD;
        int spent = age - now.firstAge[reader] - now.today;
        return what == 0 ? foretold.setsThatCost(now, spent) : foretold.leastSetThatCosts(now, spent);
    }

    public int ages(int reader, int row, int i, int n) {
        if (!now.hasReader(reader) || !rows.isRow(row) || n < 1 || n > MOST_TOLD) return BAD;
        if (rows.isMissing(row)) return found(NULL);
        if (!rows.hasPlaces(row, i, n)) return found(PLACE);
        foretold.noReadingYet();
        int ageBefore = now.firstAge[reader];
        for (int told = 0; told < n; told++) {
            int age = rows.item(row, i + told);
            foretold.tellAge(now, ageBefore, age);
            // Behind an AGE that cannot be, no way is left, and the sum may wrap around.
            ageBefore = age + 1;
        }
        return foundNothing(foretold.waysToRead());
    }

    public int burnt(int reader, int c, int what) {
        if (!now.hasReader(reader) || c < 0 || c > 10 || !isChoice(what)) return BAD;
        if (!now.isAlive(reader)) return STATE;
        int above = foretold.weightOfSurviving(now, reader, c);
        int below = foretold.power(10, Integer.bitCount(now.unreadLetters()));
        int common = foretold.commonDivisor(above, below);
        int part = what == 0 ? above : below;
        return common > 1 ? part / common : part;
    }

    public int image(int k) {
        if (!isChoice(k)) return BAD;
        if (!now.stands) return STATE;
        imageNumbered(k).becomes(now);
        return 1;
    }

    public int restore(int k) {
        if (!isChoice(k)) return BAD;
        if (!imageNumbered(k).stands) return STATE;
        now.becomes(imageNumbered(k));
        acts.forgetAll();
        return 1;
    }

    // ---- asked

    public int kind(int letter) {
        if (!now.hasLetter(letter)) return BAD;
        return now.kinds[letter];
    }

    public int as(int letter, int kind) {
        if (!now.hasLetter(letter) || kind < LETTER || kind > SEALED) return BAD;
        if (!isKindOf(now.kinds[letter], kind)) return found(KIND);
        return foundNothing(letter);
    }

    public int ask(int letter, int what) {
        if (!now.hasLetter(letter) || !isChoice(what)) return BAD;
        return asks.answer(now, letter, what);
    }

    public int trace(int i) {
        if (i < 0 || i >= asks.begun) return NONE;
        return asks.bodies[i];
    }

    public int count(int what) {
        switch (what) {
            case 0: return rows.present();
            case 1: return now.letterCount;
            case 2: return now.readerCount;
            case 3: return now.today;
            case 4: return now.howManyAlive();
            case 5: return now.howManyFit();
            case 6: return Integer.bitCount(now.unreadLetters());
            case 7: return acts.kept;
            case 8: return tape.length;
            default: return BAD;
        }
    }

    public int status() {
        return latestFinding;
    }

    // ---- what the face needs

    private int found(int number) {
        latestFinding = number;
        return FINDING - number;
    }

    private int foundNothing(int answer) {
        latestFinding = 0;
        return answer;
    }

    private Office imageNumbered(int k) {
        return k == 0 ? firstImage : secondImage;
    }

    private static boolean isChoice(int what) {
        return what == 0 || what == 1;
    }

    private static boolean inSet(int set, int member) {
        return (set >> member & 1) == 1;
    }

    private static int halfUp(int days) {
        return (days + 1) / 2;
    }

    private static int tenthUp(int days) {
        return (days + 9) / 10;
    }

    /** Whether one of a KIND is one of the other, too. */
    private static boolean isKindOf(int kind, int other) {
        if (other == LETTER || kind == other) return true;
        if (other == PROSE) return kind == VERSE || kind == LOVE;
        return other == FIGURES && kind == SEALED;
    }

    /** The ROWS; each keeps its room of ITEMS for good, so that none is made anew. */
    private static final class Rows {
        static final int MOST_ITEMS = 40;
        private static final int ROWS = 8;
        private static final int MISSING = -1, BYTES = 0, SHORTS = 1, INTS = 2;

        private final int[] lanes = new int[ROWS];
        private final int[] sizes = new int[ROWS];
        private final int[] items = new int[ROWS * MOST_ITEMS];

        Rows() {
            Arrays.fill(lanes, MISSING);
        }

        boolean isRow(int row) {
            return row >= 0 && row < ROWS;
        }

        boolean isLane(int lane) {
            return lane >= BYTES && lane <= INTS;
        }

        boolean isMissing(int row) {
            return lanes[row] == MISSING;
        }

        boolean haveOneLane(int a, int b) {
            return lanes[a] == lanes[b];
        }

        boolean hasPlaces(int row, int i, int n) {
            return i >= 0 && n >= 0 && i <= sizes[row] && n <= sizes[row] - i;
        }

        void make(int row, int lane, int n) {
            lanes[row] = lane;
            sizes[row] = n;
            for (int i = 0; i < n; i++) items[row * MOST_ITEMS + i] = 0;
        }

        int put(int row, int i, int v) {
            int kept = v;
            if (lanes[row] == BYTES) kept = (byte) v;
            if (lanes[row] == SHORTS) kept = (short) v;
            items[row * MOST_ITEMS + i] = kept;
            return kept;
        }

        int item(int row, int i) {
            return items[row * MOST_ITEMS + i];
        }

        void move(int a, int i, int b, int j, int n) {
            System.arraycopy(items, a * MOST_ITEMS + i, items, b * MOST_ITEMS + j, n);
        }

        int remove(int row) {
            lanes[row] = MISSING;
            return sizes[row];
        }

        int present() {
            int present = 0;
            for (int row = 0; row < ROWS; row++) {
                if (!isMissing(row)) present++;
            }
            return present;
        }
    }

    /** THE TAPE, and how it is read: each step goes past what is right, and stays at a FAULT. */
    private static final class Tape {
        private static final int MOST_BYTES = 120, MOST_FIGURES = 3;

        private final int[] bytes = new int[MOST_BYTES];
        private int length;
        private int place;
        private int number;

        boolean isFull() {
            return length >= MOST_BYTES;
        }

        int append(int letter) {
            bytes[length] = letter;
            length++;
            return length;
        }

        void empty() {
            length = 0;
        }

        /** 0: the draft is what the tape tells; else the FAULT of the TOKEN that place is at. */
        int readInto(Office draft) {
            draft.clear();
            place = 0;
            int wrong = readLaw(draft);
            for (int i = 0; i < MOST_BYTES && wrong == 0 && place < length; i++) {
                wrong = bytes[place] == 'r' ? readReader(draft) : readLetter(draft);
            }
            draft.stands = wrong == 0;
            return wrong;
        }

        private int readLaw(Office draft) {
            int wrong = takeSign('o');
            if (wrong == 0) wrong = takeNumber(1, 999);
            draft.retires = number;
            if (wrong == 0) wrong = takeSign(';');
            return wrong;
        }

        private int readLetter(Office draft) {
            int kind = kindAtPlace();
            if (kind == LETTER || draft.readerCount > 0) return CANNOT_STAND;
            if (draft.letterCount >= MOST_LETTERS) return NO_ROOM;
            place++;
            int wrong = takeNumber(1, MOST_PAGES);
            int pages = number;
            if (wrong == 0) wrong = takeSign(',');
            if (wrong == 0) wrong = takeNumber(1, MOST_DUE);
            int due = number;
            if (wrong == 0) wrong = takeSign(';');
            if (wrong == 0) draft.addLetter(kind, pages, due);
            return wrong;
        }

        private int readReader(Office draft) {
            if (draft.readerCount >= MOST_READERS) return NO_ROOM;
            place++;
            int wrong = takeNumber(0, MOST_FIRST_AGE);
            int age = number;
            if (wrong == 0) wrong = takeSign(',');
            if (wrong == 0) wrong = takeNumber(age + 1, MOST_AGE);
            int span = number;
            if (wrong == 0) wrong = takeSign(';');
            if (wrong == 0) draft.addReader(age, span);
            return wrong;
        }

        /** The KIND that a SORT stands for; LETTER: there is no SORT here. */
        private int kindAtPlace() {
            switch (bytes[place]) {
                case 'p': return PROSE;
                case 'v': return VERSE;
                case 'l': return LOVE;
                case 'f': return FIGURES;
                case 's': return SEALED;
                default: return LETTER;
            }
        }

        private int takeSign(int sign) {
            if (place >= length || bytes[place] != sign) return CANNOT_STAND;
            place++;
            return 0;
        }

        private int takeNumber(int least, int most) {
            number = 0;
            int figures = 0;
            for (int i = place; i < length && isFigure(bytes[i]) && figures <= MOST_FIGURES; i++) {
                number = number * 10 + bytes[i] - '0';
                figures++;
            }
            if (figures == 0 || figures > MOST_FIGURES) return CANNOT_STAND;
            if (number < least || number > most) return NOT_AS_TOLD;
            place += figures;
            return 0;
        }

        private static boolean isFigure(int letter) {
            return letter >= '0' && letter <= '9';
        }
    }

    /** All that an IMAGE keeps: the law, the LETTERS, the READERS, the DAY. */
    private static final class Office {
        private boolean stands;
        private int retires;
        private int today;
        private int letterCount;
        private final int[] kinds = new int[MOST_LETTERS];
        private final int[] pages = new int[MOST_LETTERS];
        private final int[] due = new int[MOST_LETTERS];
        private int readerCount;
        private final int[] firstAge = new int[MOST_READERS];
        private final int[] age = new int[MOST_READERS];
        private final int[] span = new int[MOST_READERS];
        private final int[] heard = new int[MOST_READERS];
        private final int[] timesRead = new int[MOST_READERS * MOST_LETTERS];

        void clear() {
            stands = false;
            retires = 0;
            today = 0;
            letterCount = 0;
            readerCount = 0;
            Arrays.fill(heard, 0);
            Arrays.fill(timesRead, 0);
        }

        void becomes(Office other) {
            stands = other.stands;
            retires = other.retires;
            today = other.today;
            letterCount = other.letterCount;
            System.arraycopy(other.kinds, 0, kinds, 0, MOST_LETTERS);
            System.arraycopy(other.pages, 0, pages, 0, MOST_LETTERS);
            System.arraycopy(other.due, 0, due, 0, MOST_LETTERS);
            readerCount = other.readerCount;
            System.arraycopy(other.firstAge, 0, firstAge, 0, MOST_READERS);
            System.arraycopy(other.age, 0, age, 0, MOST_READERS);
            System.arraycopy(other.span, 0, span, 0, MOST_READERS);
            System.arraycopy(other.heard, 0, heard, 0, MOST_READERS);
            System.arraycopy(other.timesRead, 0, timesRead, 0, MOST_READERS * MOST_LETTERS);
        }

        void addLetter(int kind, int pageCount, int dueDay) {
            kinds[letterCount] = kind;
            pages[letterCount] = pageCount;
            due[letterCount] = dueDay;
            letterCount++;
        }

        void addReader(int years, int most) {
            firstAge[readerCount] = years;
            age[readerCount] = years;
            span[readerCount] = most;
            readerCount++;
        }

        boolean hasLetter(int letter) {
            return letter >= 0 && letter < letterCount;
        }

        boolean hasReader(int reader) {
            return reader >= 0 && reader < readerCount;
        }

        boolean hasReaders(int set) {
            return set >= 0 && set < 1 << readerCount;
        }

        boolean isAlive(int reader) {
            return age[reader] < span[reader];
        }

        boolean isFit(int reader) {
            return isAlive(reader) && age[reader] < retires;
        }

        boolean survives(int reader, int days) {
            return age[reader] + days < span[reader];
        }

        boolean areAlive(int set) {
            for (int reader = 0; reader < readerCount; reader++) {
                if (inSet(set, reader) && !isAlive(reader)) return false;
            }
            return true;
        }

        int howManyAlive() {
            int alive = 0;
            for (int reader = 0; reader < readerCount; reader++) {
                if (isAlive(reader)) alive++;
            }
            return alive;
        }

        int howManyFit() {
            int fit = 0;
            for (int reader = 0; reader < readerCount; reader++) {
                if (isFit(reader)) fit++;
            }
            return fit;
        }

        boolean hasRead(int reader, int letter) {
            return timesRead[reader * MOST_LETTERS + letter] > 0;
        }

        void addTimesRead(int reader, int letter, int times) {
            timesRead[reader * MOST_LETTERS + letter] += times;
        }

        int timesReadByAll(int letter) {
            int times = 0;
            for (int reader = 0; reader < readerCount; reader++) {
                times += timesRead[reader * MOST_LETTERS + letter];
            }
            return times;
        }

        int readersOf(int letter) {
            int set = 0;
            for (int reader = 0; reader < readerCount; reader++) {
                if (hasRead(reader, letter)) set |= 1 << reader;
            }
            return set;
        }

        int lettersReadBy(int reader) {
            int set = 0;
            for (int letter = 0; letter < letterCount; letter++) {
                if (hasRead(reader, letter)) set |= 1 << letter;
            }
            return set;
        }

        int unreadLetters() {
            return unreadDueAhead(MOST_DUE + 1);
        }

        int unreadDueAhead(int day) {
            int set = 0;
            for (int letter = 0; letter < letterCount; letter++) {
                if (readersOf(letter) == 0 && due[letter] < day) set |= 1 << letter;
            }
            return set;
        }

        int costFor(int reader, int letter) {
            return costFor(reader, letter, pages[letter]);
        }

        /** What a LETTER of so many PAGES would COST a reader now. */
        int costFor(int reader, int letter, int pageCount) {
            int days = costOfPages(kinds[letter], pageCount);
            return hasRead(reader, letter) ? halfUp(days) : days;
        }

        /** What a LETTER COSTS one who never READ it. */
        int firstCost(int letter) {
            return costOfPages(kinds[letter], pages[letter]);
        }

        int firstCostOf(int set) {
            int days = 0;
            for (int letter = 0; letter < letterCount; letter++) {
                if (inSet(set, letter)) days += firstCost(letter);
            }
            return days;
        }

        int costOfAll(int reader, int set) {
            int days = 0;
            for (int letter = 0; letter < letterCount; letter++) {
                if (inSet(set, letter)) days += costFor(reader, letter);
            }
            return days;
        }

        private static int costOfPages(int kind, int pageCount) {
            switch (kind) {
                case PROSE: return pageCount;
                case VERSE: return 3 * pageCount;
                case LOVE: return halfUp(pageCount);
                case SEALED: return tenthUp(pageCount);
                default: return 0;
            }
        }
    }

    /** Does the ACTS, and keeps of the latest what it takes to undo them, in a ring. */
    private static final class Acts {
        private static final int MOST_KEPT = 24;
        private static final int READING = 0, CROSSING = 1, DAY = 2;

        private final int[] sorts = new int[MOST_KEPT];
        private final int[] readers = new int[MOST_KEPT];
        private final int[] letters = new int[MOST_KEPT];
        /** What was READ: the DAYS it COST; CROSSED OUT: the PAGES. */
        private final int[] amounts = new int[MOST_KEPT];
        /** 1: it was READ once more; 0: the reader died at it. */
        private final int[] timesMore = new int[MOST_KEPT];
        private final int[] listeners = new int[MOST_KEPT];
        /** Of the listeners those who had not HEARD it before. */
        private final int[] newListeners = new int[MOST_KEPT];
        private int next;
        private int kept;

        void forgetAll() {
            next = 0;
            kept = 0;
        }

        void letRead(Office office, int reader, int letter, int others) {
            int days = office.costFor(reader, letter);
            int lives = office.survives(reader, days) ? 1 : 0;
            office.age[reader] += days;
            office.addTimesRead(reader, letter, lives);
            readers[next] = reader;
            timesMore[next] = lives;
            listeners[next] = others;
            newListeners[next] = letHear(office, letter, others, tenthUp(days));
            keep(READING, letter, days);
        }

        /** Who HEARD it for the first time. */
        private static int letHear(Office office, int letter, int others, int days) {
            int newOnes = 0;
            for (int other = 0; other < office.readerCount; other++) {
                if (!inSet(others, other)) continue;
                if (!inSet(office.heard[other], letter)) newOnes |= 1 << other;
                office.heard[other] |= 1 << letter;
                office.age[other] += days;
            }
            return newOnes;
        }

        void letCross(Office office, int letter, int n) {
            office.pages[letter] -= n;
            keep(CROSSING, letter, n);
        }

        void letDayGo(Office office) {
            moveDay(office, 1);
            keep(DAY, 0, 1);
        }

        private static void moveDay(Office office, int days) {
            office.today += days;
            for (int reader = 0; reader < office.readerCount; reader++) {
                office.age[reader] += days;
            }
        }

        private void keep(int sort, int letter, int amount) {
            sorts[next] = sort;
            letters[next] = letter;
            amounts[next] = amount;
            next = next + 1 < MOST_KEPT ? next + 1 : 0;
            if (kept < MOST_KEPT) kept++;
        }

        void takeBack(Office office) {
            next = next > 0 ? next - 1 : MOST_KEPT - 1;
            kept--;
            if (sorts[next] == READING) takeReadingBack(office);
            if (sorts[next] == CROSSING) office.pages[letters[next]] += amounts[next];
            if (sorts[next] == DAY) moveDay(office, -1);
        }

        private void takeReadingBack(Office office) {
            int reader = readers[next];
            int letter = letters[next];
            office.age[reader] -= amounts[next];
            office.addTimesRead(reader, letter, -timesMore[next]);
            for (int other = 0; other < office.readerCount; other++) {
                if (inSet(listeners[next], other)) office.age[other] -= tenthUp(amounts[next]);
                if (inSet(newListeners[next], other)) office.heard[other] &= ~(1 << letter);
            }
        }
    }

    /** What is FORETOLD; an office that is looked at here stays as it is. */
    private static final class Foretold {
        private static final int SETS = 1 << MOST_LETTERS;

        private final int[] takenOn = new int[MOST_READERS];
        private final int[] taker = new int[MOST_LETTERS];
        private final int[] ways = new int[SETS];

        int bestReader(Office office, int letter) {
            int best = NONE;
            int most = 0;
            for (int reader = 0; reader < office.readerCount; reader++) {
                int left = office.span[reader] - office.age[reader] - office.costFor(reader, letter);
                if (office.isFit(reader) && left > most) {
                    best = reader;
                    most = left;
                }
            }
            return best;
        }

        int bestReaderAloud(Office office, int letter) {
            int best = NONE;
            int least = 0;
            for (int reader = 0; reader < office.readerCount; reader++) {
                if (!office.isFit(reader)) continue;
                if (!office.survives(reader, office.costFor(reader, letter))) continue;
                int spent = spentAloud(office, reader, letter);
                if (best == NONE || spent < least) {
                    best = reader;
                    least = spent;
                }
            }
            return best;
        }

        /** What all together spend when one who is ALIVE READS ALOUD to all others who are. */
        int spentAloud(Office office, int reader, int letter) {
            int days = office.costFor(reader, letter);
            return days + (office.howManyAlive() - 1) * tenthUp(days);
        }

        /** Whether all that nobody has READ can be READ; then the takers are who READS each. */
        boolean handsOutAll(Office office) {
            Arrays.fill(takenOn, 0);
            Arrays.fill(taker, NONE);
            return handsOut(office, 0, takenOn, taker);
        }

        // What nobody has READ COSTS all of them the same: whoever takes what, as much
        // is spent, and the first row that goes is the one that is asked for.
        private static boolean handsOut(Office office, int letter, int[] takenOn, int[] taker) {
            if (letter >= office.letterCount) return true;
            if (office.readersOf(letter) != 0) return handsOut(office, letter + 1, takenOn, taker);
            int days = office.firstCost(letter);
            for (int reader = 0; reader < office.readerCount; reader++) {
                if (!office.isFit(reader) || !office.survives(reader, takenOn[reader] + days)) continue;
                takenOn[reader] += days;
                taker[letter] = reader;
                if (handsOut(office, letter + 1, takenOn, taker)) return true;
                takenOn[reader] -= days;
            }
            return false;
        }

        int shortestDeadly(Office office, int reader) {
            int shortest = NONE;
            int fewest = 0;
            for (int letter = 0; letter < office.letterCount; letter++) {
                if (office.survives(reader, office.costFor(reader, letter))) continue;
                if (shortest == NONE || office.pages[letter] < fewest) {
                    shortest = letter;
                    fewest = office.pages[letter];
                }
            }
            return shortest;
        }

        int smallestDeadlySet(Office office, int reader) {
            int smallest = NONE;
            int fewest = MOST_LETTERS + 1;
            for (int set = 0; set < 1 << office.letterCount; set++) {
                if (Integer.bitCount(set) >= fewest) continue;
                if (office.survives(reader, office.costOfAll(reader, set))) continue;
                smallest = set;
                fewest = Integer.bitCount(set);
            }
            return smallest;
        }

        int fewestToCross(Office office, int reader, int letter) {
            for (int n = 0; n < office.pages[letter]; n++) {
                int days = office.costFor(reader, letter, office.pages[letter] - n);
                if (office.survives(reader, days)) return n;
            }
            return NONE;
        }

        int setsThatCost(Office office, int days) {
            int sets = 0;
            for (int set = 0; set < 1 << office.letterCount; set++) {
                if (office.firstCostOf(set) == days) sets++;
            }
            return sets;
        }

        int leastSetThatCosts(Office office, int days) {
            for (int set = 0; set < 1 << office.letterCount; set++) {
                if (office.firstCostOf(set) == days) return set;
            }
            return NONE;
        }

        // ways[set]: in how many rows just these LETTERS can have been READ so far.
        void noReadingYet() {
            Arrays.fill(ways, 0);
            ways[0] = 1;
        }

        /** A DAY on which one of an AGE may READ one LETTER, and is of an AGE told then. */
        void tellAge(Office office, int ageBefore, int ageTold) {
            // From the full set down: what smaller sets hold is still of the DAY before.
            for (int set = SETS - 1; set >= 0; set--) {
                int rows = ageBefore == ageTold ? ways[set] : 0;
                for (int letter = 0; letter < office.letterCount; letter++) {
                    if (!inSet(set, letter)) continue;
                    if (ageBefore + office.firstCost(letter) == ageTold) rows += ways[set - (1 << letter)];
                }
                ways[set] = rows;
            }
        }

        int waysToRead() {
            int sum = 0;
            for (int set = 0; set < SETS; set++) sum += ways[set];
            return sum;
        }

        /** Of 10 by 10 by .. (one for each LETTER that nobody has READ) how many let one live. */
        int weightOfSurviving(Office office, int reader, int c) {
            int unread = office.unreadLetters();
            int weight = 0;
            for (int left = 0; left < 1 << office.letterCount; left++) {
                if ((left & ~unread) != 0) continue;
                if (!office.survives(reader, office.costOfAll(reader, left))) continue;
                weight += power(10 - c, Integer.bitCount(left)) * power(c, Integer.bitCount(unread - left));
            }
            return weight;
        }

        int power(int base, int n) {
            int product = 1;
            for (int i = 0; i < n; i++) product *= base;
            return product;
        }

        int commonDivisor(int a, int b) {
            int greater = b;
            int lesser = a;
            // Two steps at least halve the lesser one.
            for (int i = 0; i < 64 && lesser > 0; i++) {
                int rest = greater % lesser;
                greater = lesser;
                lesser = rest;
            }
            return greater;
        }
    }

    /** The ASKS, by BODIES, and THE TRACE of those that began. */
    private static final class Asks {
        private static final int MOST_TRACED = 16, MOST_DEPTH = 8;
        private static final int ASK_SIZE = 0, ASK_MARK = 1;
        /** The BODY that begins, by KINDS. */
        private static final int[] SIZE_BODIES = {10, 11, 12, 11, 13, 14};
        private static final int[] MARK_BODIES = {20, 21, 24, 22, 23, 23};

        private final int[] bodies = new int[MOST_TRACED];
        private int begun;

        int answer(Office office, int letter, int what) {
            begun = 0;
            return begin(this, bodyFor(office, letter, what), office, letter, 0);
        }

        private static int bodyFor(Office office, int letter, int what) {
            int kind = office.kinds[letter];
            return what == ASK_SIZE ? SIZE_BODIES[kind] : MARK_BODIES[kind];
        }

        private static int begin(Asks asks, int body, Office office, int letter, int depth) {
            if (depth > MOST_DEPTH) return 0;
            asks.leaveNumber(body);
            int next = depth + 1;
            switch (body) {
                case 10: return office.pages[letter];
                case 11: return begin(asks, 10, office, letter, next)
                        + begin(asks, bodyFor(office, letter, ASK_MARK), office, letter, next);
                case 12: return -begin(asks, 11, office, letter, next);
                case 13: return begin(asks, 10, office, letter, next) - 100;
                case 14: return 2 * begin(asks, 13, office, letter, next);
                case 20: return letter;
                case 21: return begin(asks, 20, office, letter, next) + office.timesReadByAll(letter);
                case 22: return begin(asks, 21, office, letter, next) - 1000;
                case 23: return begin(asks, 20, office, letter, next)
                        - begin(asks, bodyFor(office, letter, ASK_SIZE), office, letter, next);
                case 24: return 2 * begin(asks, 21, office, letter, next);
                default: return 0;
            }
        }

        private void leaveNumber(int body) {
            if (begun >= MOST_TRACED) return;
            bodies[begun] = body;
            begun++;
        }
    }
}
