/** What each promise of the document says, by runs that were worked out by hand. */
public final class PromiseTests {
    private static final int NONE = -1000000, BAD = -1000001, STATE = -1000002, FULL = -1000003;
    private static final int NULL = -1000011, PLACE = -1000012, KIND = -1000013, SIZE = -1000014, STORE = -1000015;
    private static final int LOW = Integer.MIN_VALUE, HIGH = Integer.MAX_VALUE;

    /** RETIRES 60; p12 v7 l9 f30 s25 p40; READERS 20/50, 30/70, 58/200, 61/90. */
    private static final String OFFICE =
            "o60;p12,5;v7,3;l9,9;f30,2;s25,4;p40,8;r20,50;r30,70;r58,200;r61,90;";

    private static int promise;
    private static int wrong;
    private static int asked;

    public static void main(String[] args) {
        newObject();
        row();
        set();
        copy();
        drop();
        feed();
        office();
        faults();
        read();
        aloud();
        cross();
        day();
        undo();
        reader();
        letter();
        costs();
        best();
        allRead();
        bestAloud();
        kills();
        post();
        crossOut();
        dies();
        late();
        soOld();
        ages();
        burnt();
        images();
        kinds();
        asks();
        counts();
        status();
        System.out.println(asked + " answers, " + wrong + " not as due");
        if (wrong != 0) System.exit(1);
    }

    private static void due(String call, int want, int got) {
        asked++;
        if (got == want) return;
        wrong++;
        System.out.println("promise " + promise + ": " + call + " answered " + got + ", due is " + want);
    }

    private static void feedAll(AgingLetters x, String text) {
        for (int i = 0; i < text.length(); i++) x.feed(text.charAt(i));
    }

    private static AgingLetters with(String text) {
        AgingLetters x = new AgingLetters();
        feedAll(x, text);
        int readers = x.office();
        if (readers < 0) due("office() of " + text, 0, readers);
        return x;
    }

    private static void fault(String text, int place, int number) {
        AgingLetters x = with("o50;p1,1;r1,2;");
        feedAll(x, text);
        due("office() of " + text, -1000100 - place, x.office());
        due("fault() of " + text, number, x.fault());
        due("tape behind " + text, 0, x.count(8));
        due("letters behind " + text, 1, x.count(1));
        due("readers behind " + text, 1, x.count(2));
        due("span behind " + text, 2, x.reader(0, 1));
    }

    private static void newObject() {
        promise = 1;
        AgingLetters x = new AgingLetters();
        for (int what = 0; what <= 8; what++) due("count(" + what + ")", 0, x.count(what));
        due("status()", 0, x.status());
        due("fault()", 0, x.fault());
        due("trace(0)", NONE, x.trace(0));
        due("day()", STATE, x.day());
        due("undo()", STATE, x.undo());
        due("reader(0, 0)", BAD, x.reader(0, 0));
        due("letter(0, 0)", BAD, x.letter(0, 0));
        due("allRead(-9)", STATE, x.allRead(-9));
        due("late(-9)", STATE, x.late(-9));
        due("restore(0)", STATE, x.restore(0));
        due("image(0)", STATE, x.image(0));
        for (int r = 0; r < 8; r++) due("drop(" + r + ")", NULL, x.drop(r));
    }

    private static void row() {
        promise = 2;
        AgingLetters x = new AgingLetters();
        due("row(0, 0, 40)", 40, x.row(0, 0, 40));
        due("row(7, 2, 0)", 0, x.row(7, 2, 0));
        due("set of none", PLACE, x.set(7, 0, 1));
        due("set(0, 39, 7)", 7, x.set(0, 39, 7));
        due("row(0, 0, 40) anew", 40, x.row(0, 0, 40));
        due("row(1, 0, 40)", 40, x.row(1, 0, 40));
        due("copy to see what is there", 40, x.copy(0, 0, 1, 0, 40));
        AgingLetters y = with("o9;r0,9;");
        y.row(0, 1, 3);
        y.set(0, 1, 5);
        y.row(0, 2, 3);
        due("ITEMS are 0 at first", 0, y.ages(0, 0, 1, 2));
        due("ITEM 0 is 0", 1, y.ages(0, 0, 1, 1));
        due("row(8, 0, 1)", BAD, x.row(8, 0, 1));
        due("row(-1, 0, 1)", BAD, x.row(-1, 0, 1));
        due("row(0, -1, 1)", BAD, x.row(0, -1, 1));
        due("row(0, 3, -1)", BAD, x.row(0, 3, -1));
        due("row(0, 0, 41)", BAD, x.row(0, 0, 41));
        due("row(8, 0, -1)", BAD, x.row(8, 0, -1));
        due("row(0, 0, -1)", SIZE, x.row(0, 0, -1));
        due("row(0, 0, LOW)", SIZE, x.row(0, 0, LOW));
        due("row(0, 0, HIGH)", BAD, x.row(0, 0, HIGH));
        due("the ROW stays", 40, x.drop(0));
    }

    private static void set() {
        promise = 3;
        AgingLetters x = new AgingLetters();
        x.row(0, 0, 2);
        x.row(1, 1, 2);
        x.row(2, 2, 2);
        due("set(0, 0, 127)", 127, x.set(0, 0, 127));
        due("set(0, 0, 128)", -128, x.set(0, 0, 128));
        due("set(0, 1, -129)", 127, x.set(0, 1, -129));
        due("set(0, 1, 256)", 0, x.set(0, 1, 256));
        due("set(1, 0, 32767)", 32767, x.set(1, 0, 32767));
        due("set(1, 0, 32768)", -32768, x.set(1, 0, 32768));
        due("set(1, 1, 65536)", 0, x.set(1, 1, 65536));
        due("set(2, 0, HIGH)", HIGH, x.set(2, 0, HIGH));
        due("set(2, 1, LOW)", LOW, x.set(2, 1, LOW));
        due("set(2, 1, BAD)", BAD, x.set(2, 1, BAD));
        due("set(8, 0, 0)", BAD, x.set(8, 0, 0));
        due("set(-1, 0, 0)", BAD, x.set(-1, 0, 0));
        due("set(3, -1, 0)", NULL, x.set(3, -1, 0));
        due("set(0, -1, 0)", PLACE, x.set(0, -1, 0));
        due("set(0, 2, 0)", PLACE, x.set(0, 2, 0));
        due("set(0, HIGH, 0)", PLACE, x.set(0, HIGH, 0));
        due("set(0, LOW, 0)", PLACE, x.set(0, LOW, 0));
    }

    private static void copy() {
        promise = 4;
        AgingLetters x = with("o99;f1,1;r10,99;");
        x.row(0, 0, 5);
        x.row(1, 0, 3);
        x.row(2, 1, 5);
        for (int i = 0; i < 5; i++) x.set(0, i, 10 + i);
        due("copy forward, on itself", 4, x.copy(0, 0, 0, 1, 4));
        due("it is 10 10 11 12 13", 5, x.ages(0, 0, 1, 4));
        due("it begins with 10", 2, x.ages(0, 0, 0, 1));
        due("copy back, on itself", 4, x.copy(0, 1, 0, 0, 4));
        due("it is 10 11 12 13 13", 2 + 2 + 1, x.ages(0, 0, 0, 4));
        due("the last stays", 0, x.ages(0, 0, 0, 5));
        due("copy(0, 0, 1, 1, 2)", 2, x.copy(0, 0, 1, 1, 2));
        due("it is 0 10 11", 3, x.ages(0, 1, 1, 2));
        due("copy of none at the ends", 0, x.copy(0, 5, 1, 3, 0));
        due("BAD a", BAD, x.copy(8, 0, 0, 0, 0));
        due("BAD b", BAD, x.copy(7, 0, -1, 0, 0));
        due("NULL ahead of STORE", NULL, x.copy(7, -1, 2, 0, 0));
        due("NULL of b", NULL, x.copy(0, 0, 7, 0, -1));
        due("STORE ahead of PLACE", STORE, x.copy(0, -1, 2, 0, 1));
        due("STORE of none", STORE, x.copy(0, 0, 2, 0, 0));
        due("PLACE i", PLACE, x.copy(0, -1, 1, 0, 1));
        due("PLACE j", PLACE, x.copy(0, 0, 1, -1, 1));
        due("PLACE n", PLACE, x.copy(0, 0, 1, 0, -1));
        due("PLACE beyond a", PLACE, x.copy(0, 3, 0, 0, 3));
        due("PLACE beyond b", PLACE, x.copy(0, 0, 1, 1, 3));
        due("PLACE i beyond, none", PLACE, x.copy(0, 6, 1, 0, 0));
        due("PLACE j beyond, none", PLACE, x.copy(0, 0, 1, 4, 0));
        due("PLACE HIGH", PLACE, x.copy(0, 1, 1, 1, HIGH));
        due("PLACE HIGH i", PLACE, x.copy(0, HIGH, 1, 1, 1));
        due("PLACE LOW", PLACE, x.copy(0, LOW, 1, LOW, LOW));
    }

    private static void drop() {
        promise = 5;
        AgingLetters x = new AgingLetters();
        x.row(3, 2, 17);
        due("drop(3)", 17, x.drop(3));
        due("it is missing", 0, x.count(0));
        due("drop(3) again", NULL, x.drop(3));
        due("drop(8)", BAD, x.drop(8));
        due("drop(-1)", BAD, x.drop(-1));
    }

    private static void feed() {
        promise = 6;
        AgingLetters x = new AgingLetters();
        due("feed(0)", 1, x.feed(0));
        due("feed(255)", 2, x.feed(255));
        due("feed(256)", BAD, x.feed(256));
        due("feed(-1)", BAD, x.feed(-1));
        for (int n = 3; n <= 120; n++) due("feed", n, x.feed('o'));
        due("feed beyond", FULL, x.feed('o'));
        due("feed(256) beyond", BAD, x.feed(256));
        due("bytes", 120, x.count(8));
        due("office()", -1000100, x.office());
        due("feed again", 1, x.feed('o'));
    }

    private static void office() {
        promise = 7;
        due("law alone", 0, with("o999;").count(2));
        AgingLetters x = with(OFFICE);
        due("letters", 6, x.count(1));
        due("readers", 4, x.count(2));
        due("tape", 0, x.count(8));
        due("no readers", 1, with("o001;p40,99;").count(1));
        due("no letters", 1, with("o1;r99,999;").count(2));
        due("leading noughts", 1, with("o001;p001,009;r000,001;").reader(0, 1));
        x.row(0, 1, 5);
        x.image(1);
        x.read(0, 0);
        x.aloud(1, 4, 1);
        x.day();
        x.ask(0, 0);
        feedAll(x, "o70;v3,4;r5,9;r6,8;");
        due("another office", 2, x.office());
        due("DAY 0", 0, x.count(3));
        due("nothing READ", 0, x.reader(0, 4));
        due("nothing HEARD", 0, x.reader(1, 5));
        due("unread", 1, x.count(6));
        due("undo()", STATE, x.undo());
        due("ROWS stay", 5, x.drop(0));
        due("TRACE stays", 11, x.trace(0));
        due("old letter", BAD, x.letter(1, 0));
        due("old reader", BAD, x.reader(2, 0));
        due("IMAGES stay", 1, x.restore(1));
        due("of the first office", 4, x.count(2));
        x.read(0, 0);
        feedAll(x, "o70;v3");
        due("a fault", -1000106, x.office());
        due("all stays", 32, x.reader(0, 0));
        due("acts stay", 0, x.undo());
        due("the longest", 4, with("o999;p040,099;p040,099;p040,099;p040,099;p040,099;p040,099;"
                + "r099,999;r099,999;r099,999;r099,999;").count(2));
    }

    private static void faults() {
        promise = 8;
        fault("", 0, 1);
        fault("p1,1;", 0, 1);
        fault("O1;", 0, 1);
        fault(" o1;", 0, 1);
        fault("1;", 0, 1);
        fault("o", 1, 1);
        fault("o;", 1, 1);
        fault("oo", 1, 1);
        fault("o0;", 1, 2);
        fault("o000;", 1, 2);
        fault("o1000;", 1, 1);
        fault("o0001;", 1, 1);
        fault("o00000000000000000001;", 1, 1);
        fault("o12", 3, 1);
        fault("o12,", 3, 1);
        fault("o1; ", 3, 1);
        fault("o1;o", 3, 1);
        fault("o1;;", 3, 1);
        fault("o1;q1,1;", 3, 1);
        fault("o1;p", 4, 1);
        fault("o1;p0,1;", 4, 2);
        fault("o1;p41,1;", 4, 2);
        fault("o1;p1234,1;", 4, 1);
        fault("o1;pp", 4, 1);
        fault("o1;p1", 5, 1);
        fault("o1;p1;", 5, 1);
        fault("o1;p40,", 7, 1);
        fault("o1;p1,0;", 6, 2);
        fault("o1;p1,100;", 6, 2);
        fault("o1;p1,99", 8, 1);
        fault("o1;p1,99,", 8, 1);
        fault("o1;p41", 4, 2);
        fault("o1;r", 4, 1);
        fault("o1;r,", 4, 1);
        fault("o1;r100,200;", 4, 2);
        fault("o1;r99;", 6, 1);
        fault("o1;r99,", 7, 1);
        fault("o1;r99,99;", 7, 2);
        fault("o1;r99,098;", 7, 2);
        fault("o1;r9,1000;", 6, 1);
        fault("o1;r0,0;", 6, 2);
        fault("o1;r0,1", 7, 1);
        fault("o1;r0,1;p1,1;", 8, 1);
        fault("o1;r0,1;1", 8, 1);
        fault("o1;r0,1;\u00ff", 8, 1);
        fault("o1;f1,1;f1,1;f1,1;f1,1;f1,1;f1,1;s", 33, 3);
        fault("o1;f1,1;f1,1;f1,1;f1,1;f1,1;f1,1;x", 33, 1);
        fault("o1;r0,1;r0,1;r0,1;r0,1;r", 23, 3);
        fault("o1;r0,1;r0,1;r0,1;r0,1;p", 23, 1);
        fault("o1;f1,1;f1,1;f1,1;f1,1;f1,1;f1,1;r0,1;s", 38, 1);
        AgingLetters x = with("o5;");
        due("none yet", 0, x.fault());
        feedAll(x, "o0;");
        x.office();
        due("the first", 2, x.fault());
        x.office();
        due("the next", 1, x.fault());
        feedAll(x, "o5;");
        x.office();
        due("it stays", 1, x.fault());
    }

    private static void read() {
        promise = 9;
        AgingLetters x = with(OFFICE);
        due("prose", 32, x.read(0, 0));
        due("figures", 32, x.read(0, 3));
        due("love", 37, x.read(0, 2));
        due("love again", 40, x.read(0, 2));
        due("sealed", 43, x.read(0, 4));
        due("sealed again", 45, x.read(0, 4));
        due("sealed once more", 47, x.read(0, 4));
        due("dies at it", 68, x.read(0, 1));
        due("which does not count", 0, x.letter(1, 2));
        due("nor for it", 1 + 4 + 8 + 16, x.reader(0, 4));
        due("dead ones do not read", STATE, x.read(0, 3));
        due("it retires at 60", 70, x.read(2, 0));
        due("so no more", STATE, x.read(2, 3));
        due("it was READ", 4, x.letter(4, 2) + x.letter(0, 2) - 1);
        due("retired", STATE, x.read(3, 3));
        due("BAD reader", BAD, x.read(4, 0));
        due("BAD reader", BAD, x.read(-1, 0));
        due("BAD letter", BAD, x.read(0, 6));
        due("BAD letter, retired", BAD, x.read(3, -1));
        AgingLetters y = with("o50;p1,1;r49,51;r49,50;r50,60;");
        due("alive at SPAN less 1", 50, y.read(0, 0));
        due("once", 1, y.letter(0, 2));
        due("dies at SPAN", 50, y.read(1, 0));
        due("not once more", 1, y.letter(0, 2));
        due("not FIT at RETIRES", STATE, y.read(2, 0));
    }

    private static void aloud() {
        promise = 10;
        AgingLetters x = with(OFFICE);
        due("aloud(0, 14, 0)", 32, x.aloud(0, 14, 0));
        due("1 is older by 2", 32, x.reader(1, 0));
        due("3, too, though retired", 63, x.reader(3, 0));
        due("1 HEARD it", 1, x.reader(1, 5));
        due("0 did not", 0, x.reader(0, 5));
        due("0 READ it", 1, x.reader(0, 4));
        due("1 did not", 0, x.reader(1, 4));
        due("aloud(0, 2, 0), for half of it", 38, x.aloud(0, 2, 0));
        due("a tenth of 6", 33, x.reader(1, 0));
        due("to none", 53, x.aloud(1, 0, 0) + 8);
        due("figures", 38, x.aloud(0, 8, 3));
        due("cost nothing", 63, x.reader(3, 0));
        due("it HEARD them", 9, x.reader(3, 5));
        due("0 dies at it", 59, x.aloud(0, 2, 1));
        due("1 HEARD it", 3, x.reader(1, 5));
        due("and is older", 45 + 3, x.reader(1, 0));
        due("not READ", 0, x.letter(1, 2));
        due("itself", BAD, x.aloud(1, 2, 0));
        due("itself among others", BAD, x.aloud(1, 14, 0));
        due("itself, not FIT", BAD, x.aloud(3, 8, 0));
        due("16", BAD, x.aloud(1, 16, 0));
        due("-1", BAD, x.aloud(1, -1, 0));
        due("LOW", BAD, x.aloud(1, LOW, 0));
        due("letter 6", BAD, x.aloud(1, 4, 6));
        due("reader 4", BAD, x.aloud(4, 1, 0));
        due("the dead do not hear", STATE, x.aloud(1, 1, 3));
        due("not among others, too", STATE, x.aloud(1, 5, 3));
        due("the dead do not read", STATE, x.aloud(0, 0, 3));
        due("the retired do not read", STATE, x.aloud(3, 4, 3));
        AgingLetters y = with("o50;p40,1;r1,99;r2,6;");
        due("one hears and dies", 41, y.aloud(0, 2, 0));
        due("at SPAN", 6, y.reader(1, 0));
        due("it is dead", 0, y.reader(1, 2));
        due("it HEARD it", 1, y.reader(1, 5));
        due("once READ", 1, y.letter(0, 2));
    }

    private static void cross() {
        promise = 11;
        AgingLetters x = with(OFFICE);
        due("cross(0, 1)", 11, x.cross(0, 1));
        due("cross(0, 11)", STATE, x.cross(0, 11));
        due("cross(0, 10)", 1, x.cross(0, 10));
        due("cross(0, 1)", STATE, x.cross(0, 1));
        due("cross(5, 39)", 1, x.cross(5, 39));
        due("cross(5, 40)", BAD, x.cross(5, 40));
        due("cross(5, 0)", BAD, x.cross(5, 0));
        due("cross(5, -1)", BAD, x.cross(5, -1));
        due("cross(6, 1)", BAD, x.cross(6, 1));
        due("cross(-1, 1)", BAD, x.cross(-1, 1));
        due("what it COSTS", 1, x.costs(0, 0));
        due("acts", 3, x.count(7));
    }

    private static void day() {
        promise = 12;
        AgingLetters x = with("o60;p12,5;r20,21;r59,70;");
        due("day()", 1, x.day());
        due("older", 21, x.reader(0, 0));
        due("dead", 0, x.reader(0, 2));
        due("retired", 0, x.reader(1, 3));
        due("alive", 1, x.reader(1, 2));
        due("day()", 2, x.day());
        due("older, though dead", 22, x.reader(0, 0));
        due("no readers", 1, with("o1;").day());
        due("no OFFICE", STATE, new AgingLetters().day());
        // Beyond the 512th call, where the document's edge lies.
        AgingLetters y = with("o1;r0,1;");
        for (int d = 1; d <= 999; d++) due("day()", d, y.day());
        due("day() 1000", FULL, y.day());
        due("it stays", 999, y.reader(0, 0));
    }

    private static void undo() {
        promise = 13;
        AgingLetters x = with(OFFICE);
        due("none", STATE, x.undo());
        x.aloud(0, 6, 0);
        x.aloud(0, 10, 0);
        x.read(1, 1);
        x.cross(5, 9);
        x.day();
        due("day undone", 4, x.undo());
        due("DAY", 0, x.count(3));
        due("age", 38, x.reader(0, 0));
        due("cross undone", 3, x.undo());
        due("pages", 40, x.letter(5, 0));
        due("read undone", 2, x.undo());
        due("age", 30 + 2 + 1, x.reader(1, 0));
        due("not READ", 0, x.letter(1, 3));
        due("aloud undone", 1, x.undo());
        due("1 HEARD it before", 1, x.reader(1, 5));
        due("3 did not", 0, x.reader(3, 5));
        due("ages", 32 + 32 + 60 + 61, x.reader(0, 0) + x.reader(1, 0) + x.reader(2, 0) + x.reader(3, 0));
        due("READ once", 1, x.letter(0, 2));
        due("aloud undone", 0, x.undo());
        due("none HEARD it", 0, x.reader(1, 5) + x.reader(2, 5));
        due("ages", 20 + 30 + 58, x.reader(0, 0) + x.reader(1, 0) + x.reader(2, 0));
        due("none left", STATE, x.undo());
        x.read(0, 5);
        due("a death", 60, x.reader(0, 0));
        due("undone", 0, x.undo());
        due("it lives", 20, x.reader(0, 0));
        due("never READ", 0, x.letter(5, 2));
        for (int d = 0; d < 30; d++) x.day();
        due("24 are kept", 24, x.count(7));
        for (int left = 23; left >= 0; left--) due("undo()", left, x.undo());
        due("the oldest are forgotten", STATE, x.undo());
        due("DAY 6", 6, x.count(3));
        AgingLetters y = with("o60;f1,1;r20,50;r1,9;");
        y.read(0, 0);
        y.aloud(0, 2, 0);
        y.aloud(0, 2, 0);
        due("acts by which nothing becomes another, too", 2, y.undo());
        due("HEARD", 1, y.reader(1, 5));
        due("twice", 2, y.letter(0, 2));
        manyUndone();
        AgingLetters z = with("o1;");
        z.day();
        due("a DAY of none", 0, z.undo());
        due("refusals are no acts", BAD, z.cross(0, 1));
        due("nothing", STATE, z.undo());
    }

    /** Acts of all sorts, one after the other, 40 of them, of which the last 24 are undone in turn. */
    private static void manyUndone() {
        AgingLetters x = with("o999;p40,5;v40,3;s40,9;r20,999;r30,999;");
        int[] seen = new int[41];
        for (int act = 0; act <= 40; act++) {
            seen[act] = sum(x);
            switch (act % 5) {
                case 0: x.read(0, 2); break;
                case 1: x.cross(act % 2, 1 + act % 3); break;
                case 2: x.aloud(1, 1, 1); break;
                case 3: x.day(); break;
                default: x.aloud(0, 0, 0);
            }
        }
        for (int act = 40; act > 16; act--) {
            due("kept", act - 17, x.undo());
            due("ahead of act " + act, seen[act], sum(x));
        }
        due("no more", STATE, x.undo());
    }

    /** A number in which most of an office shows. */
    private static int sum(AgingLetters x) {
        int sum = x.count(3);
        for (int r = 0; r < 2; r++) {
            for (int what = 0; what < 6; what++) sum = sum * 31 + x.reader(r, what);
        }
        for (int l = 0; l < 3; l++) {
            for (int what = 0; what < 4; what++) sum = sum * 31 + x.letter(l, what);
        }
        return sum;
    }

    private static void reader() {
        promise = 14;
        AgingLetters x = with(OFFICE);
        due("AGE", 58, x.reader(2, 0));
        due("SPAN", 200, x.reader(2, 1));
        due("ALIVE", 1, x.reader(3, 2));
        due("not FIT", 0, x.reader(3, 3));
        due("FIT", 1, x.reader(2, 3));
        x.read(1, 3);
        x.read(1, 0);
        x.aloud(0, 2, 4);
        due("READ", 9, x.reader(1, 4));
        due("HEARD", 16, x.reader(1, 5));
        due("what 6", BAD, x.reader(0, 6));
        due("what -1", BAD, x.reader(0, -1));
        due("reader 4", BAD, x.reader(4, 0));
        due("reader -1", BAD, x.reader(-1, 0));
    }

    private static void letter() {
        promise = 15;
        AgingLetters x = with(OFFICE);
        x.read(1, 3);
        x.read(1, 3);
        x.read(0, 3);
        due("PAGES", 30, x.letter(3, 0));
        due("DUE", 2, x.letter(3, 1));
        due("READ", 3, x.letter(3, 2));
        due("READERS", 3, x.letter(3, 3));
        due("what 4", BAD, x.letter(3, 4));
        due("what -1", BAD, x.letter(3, -1));
        due("letter 6", BAD, x.letter(6, 0));
        due("letter -1", BAD, x.letter(-1, 0));
    }

    private static void costs() {
        promise = 16;
        AgingLetters x = with("o999;p13,1;v13,1;l13,1;f13,1;s11,1;s1,1;r0,999;r0,999;");
        int[] first = {13, 39, 7, 0, 2, 1};
        int[] again = {7, 20, 4, 0, 1, 1};
        for (int l = 0; l < 6; l++) {
            due("costs", first[l], x.costs(0, l));
            x.aloud(1, 1, l);
            due("having HEARD it", first[l], x.costs(0, l));
            x.read(0, l);
            due("having READ it", again[l], x.costs(0, l));
            x.read(0, l);
            due("having READ it twice", again[l], x.costs(0, l));
        }
        due("of ten pages a tenth", 1, with("o9;s10,1;r0,9;").costs(0, 0));
        due("of forty", 4, with("o9;s40,1;r0,9;").costs(0, 0));
        due("also for the retired", 40, with("o9;p40,1;r10,20;").costs(0, 0));
        due("reader 2", BAD, x.costs(2, 0));
        due("letter 6", BAD, x.costs(0, 6));
        due("-1", BAD, x.costs(-1, 0) + x.costs(0, -1) - BAD);
    }

    private static void best() {
        promise = 17;
        AgingLetters x = with(OFFICE);
        due("best(0)", 2, x.best(0));
        x.read(2, 0);
        due("2 retired", 1, x.best(0));
        due("letter 5: 0 and 1 would die", NONE, x.best(5));
        due("letter 6", BAD, x.best(6));
        due("letter -1", BAD, x.best(-1));
        AgingLetters y = with("o60;p9,1;r10,20;r11,21;r9,19;r30,41;");
        due("most DAYS left", 3, y.best(0));
        AgingLetters z = with("o60;p9,1;r10,19;r10,20;r11,21;");
        due("of several the first", 1, z.best(0));
        due("dead at SPAN", NONE, with("o60;p9,1;r10,19;").best(0));
        due("none to read", NONE, with("o60;p9,1;").best(0));
    }

    private static void allRead() {
        promise = 18;
        AgingLetters x = with(OFFICE);
        due("spent", 81, x.allRead(-1));
        int[] who = {0, 1, 0, 0, 0, 2};
        for (int l = 0; l < 6; l++) due("who READS " + l, who[l], x.allRead(l));
        due("nothing changes", 20, x.reader(0, 0));
        x.read(0, 0);
        due("READ", NONE, x.allRead(0));
        due("spent yet", 69, x.allRead(-1));
        due("k = 6", BAD, x.allRead(6));
        due("k = -2", BAD, x.allRead(-2));
        AgingLetters y = with("o60;p5,1;p4,1;p3,1;r10,18;r20,26;r60,99;");
        due("5 by 1, 4 and 3 by 0", 12, y.allRead(-1));
        due("p5", 1, y.allRead(0));
        due("p4", 0, y.allRead(1));
        due("p3", 0, y.allRead(2));
        y.day();
        due("no more", NONE, y.allRead(-1));
        due("no more", NONE, y.allRead(0));
        AgingLetters z = with("o11;p5,1;p5,1;r10,21;");
        due("FIT is not asked between", 10, z.allRead(-1));
        due("no letters", 0, with("o11;").allRead(-1));
        due("no letters, BAD", BAD, with("o11;r1,2;").allRead(0));
        due("nobody", NONE, with("o11;f1,1;").allRead(-1));
        due("nobody FIT", NONE, with("o11;f1,1;r11,99;").allRead(-1));
        due("no OFFICE, ahead of BAD", STATE, new AgingLetters().allRead(-2));
    }

    private static void bestAloud() {
        promise = 19;
        AgingLetters x = with(OFFICE);
        due("p12 who", 0, x.bestAloud(0, 0));
        due("p12 spent", 12 + 3 * 2, x.bestAloud(0, 1));
        due("p40 who", 2, x.bestAloud(5, 0));
        due("p40 spent", 40 + 3 * 4, x.bestAloud(5, 1));
        x.read(1, 0);
        due("1 has READ it", 1, x.bestAloud(0, 0));
        due("half of it", 6 + 3 * 1, x.bestAloud(0, 1));
        x.read(0, 5);
        due("0 is dead", 6 + 2 * 1, x.bestAloud(0, 1));
        due("what 2", BAD, x.bestAloud(0, 2));
        due("what -1", BAD, x.bestAloud(0, -1));
        due("letter 6", BAD, x.bestAloud(6, 0));
        due("letter -1", BAD, x.bestAloud(-1, 0));
        AgingLetters y = with("o20;p9,1;r10,19;r20,99;");
        due("NONE who", NONE, y.bestAloud(0, 0));
        due("NONE spent", NONE, y.bestAloud(0, 1));
        AgingLetters z = with("o20;p9,1;r10,20;r1,2;");
        due("others may die at it", 10, z.bestAloud(0, 1));
        due("alone", 9, with("o20;p9,1;r10,20;").bestAloud(0, 1));
    }

    private static void kills() {
        promise = 20;
        AgingLetters x = with("o50;p30,1;v10,1;v12,1;p40,1;v10,1;f40,1;r60,90;r10,50;r1,999;");
        due("fewest PAGES, not FIT", 1, x.kills(0));
        due("40 only", 3, x.kills(1));
        due("none", NONE, x.kills(2));
        x.cross(3, 1);
        due("none any more", NONE, x.kills(1));
        due("reader 3", BAD, x.kills(3));
        due("reader -1", BAD, x.kills(-1));
        AgingLetters y = with("o50;p10,1;r10,25;r1,2;");
        y.read(0, 0);
        due("half of it", 0, y.kills(0));
        AgingLetters z = with("o50;p10,1;r10,26;r1,2;");
        z.read(0, 0);
        due("half of it, survived", NONE, z.kills(0));
        z.day();
        due("dead", STATE, z.kills(1));
    }

    private static void post() {
        promise = 21;
        AgingLetters x = with("o5;p5,1;p6,1;v3,1;l9,1;p1,1;f9,1;r10,25;r10,99;r10,40;");
        due("15 DAYS, how many", 2, x.post(0, 0));
        due("p6 and v3", 6, x.post(0, 1));
        due("89 DAYS", NONE, x.post(1, 0));
        due("89 DAYS which", NONE, x.post(1, 1));
        due("30 DAYS", NONE, x.post(2, 1));
        x.day();
        due("14 DAYS, of several the least", 5, x.post(0, 1));
        x.day();
        x.day();
        due("27 DAYS", NONE, x.post(2, 0));
        x.day();
        x.day();
        due("25 DAYS", 4, x.post(2, 0));
        due("all but p1, f9", 15, x.post(2, 1));
        due("what 2", BAD, x.post(0, 2));
        due("what -1", BAD, x.post(0, -1));
        due("reader 3", BAD, x.post(3, 0));
        AgingLetters y = with("o50;p10,1;p1,1;r10,25;r1,2;");
        y.read(0, 0);
        due("half of it, now", 1, y.post(0, 1));
        due("no letters", NONE, with("o50;r1,2;").post(0, 0));
        y.day();
        due("dead", STATE, y.post(1, 0));
        due("dead, BAD", BAD, y.post(1, 2));
    }

    private static void crossOut() {
        promise = 22;
        AgingLetters x = with("o5;p12,1;v7,1;l9,1;f9,1;s25,1;r10,20;r10,11;r10,99;");
        due("p12", 3, x.crossOut(0, 0));
        due("v7", 4, x.crossOut(0, 1));
        due("l9", 0, x.crossOut(0, 2));
        due("f9", 0, x.crossOut(1, 3));
        due("s25 by none", NONE, x.crossOut(1, 4));
        due("p12 by none", NONE, x.crossOut(1, 0));
        due("enough", 0, x.crossOut(2, 0));
        AgingLetters y = with("o50;p10,1;r10,23;r0,1;");
        y.read(0, 0);
        due("half of 4", 6, y.crossOut(0, 0));
        due("reader 2", BAD, y.crossOut(2, 0));
        due("letter 1", BAD, y.crossOut(0, 1));
        due("-1", BAD, y.crossOut(-1, -1));
        y.day();
        due("dead", STATE, y.crossOut(1, 0));
        due("dead, BAD", BAD, y.crossOut(1, 1));
        due("to one page", 39, with("o5;p40,1;r10,12;").crossOut(0, 0));
    }

    private static void dies() {
        promise = 23;
        AgingLetters x = with("o5;p12,1;r10,20;r10,11;r0,50;");
        due("dies(0)", 10, x.dies(0));
        due("dies(1)", 1, x.dies(1));
        x.day();
        due("the same DAY", 10, x.dies(0));
        due("dead", NONE, x.dies(1));
        x.read(2, 0);
        due("sooner", 38, x.dies(2));
        due("dies(3)", BAD, x.dies(3));
        due("dies(-1)", BAD, x.dies(-1));
    }

    private static void late() {
        promise = 24;
        AgingLetters x = with(OFFICE);
        due("late(0)", 0, x.late(0));
        due("late(2)", 0, x.late(2));
        due("late(3)", 8, x.late(3));
        due("late(4)", 10, x.late(4));
        due("late(99)", 63, x.late(99));
        x.day();
        due("late(2), a DAY on", 8, x.late(2));
        x.read(0, 3);
        due("READ", 0, x.late(2));
        due("late(-1)", BAD, x.late(-1));
        due("late(100)", BAD, x.late(100));
        due("no OFFICE, ahead of BAD", STATE, new AgingLetters().late(100));
        AgingLetters y = with("o9;p1,99;");
        due("late(99)", 0, y.late(99));
        y.day();
        due("late(99), a DAY on", 1, y.late(99));
    }

    private static void soOld() {
        promise = 25;
        AgingLetters x = with(OFFICE);
        due("none or figures", 2, x.soOld(0, 20, 0));
        due("the least", 0, x.soOld(0, 20, 1));
        due("12, and figures", 2, x.soOld(0, 32, 0));
        due("12", 1, x.soOld(0, 32, 1));
        due("younger", 0, x.soOld(0, 19, 0));
        due("younger", NONE, x.soOld(0, 19, 1));
        x.day();
        x.day();
        due("DAYS went by", 0, x.soOld(0, 20, 0));
        due("22", 2, x.soOld(0, 22, 0));
        x.read(0, 0);
        due("as never READ", 2, x.soOld(0, 34, 0));
        x.cross(0, 2);
        due("PAGES now", 0, x.soOld(0, 34, 0));
        due("PAGES now", 1, x.soOld(0, 32, 1));
        due("999", 0, x.soOld(0, 999, 0));
        due("1000", BAD, x.soOld(0, 1000, 0));
        due("-1", BAD, x.soOld(0, -1, 0));
        due("what 2", BAD, x.soOld(0, 20, 2));
        due("what -1", BAD, x.soOld(0, 20, -1));
        due("reader 4", BAD, x.soOld(4, 20, 0));
        AgingLetters y = with("o9;p1,1;p2,1;p3,1;p4,1;p5,1;p6,1;r0,9;");
        due("sets of 10", 5, y.soOld(0, 10, 0));
        due("the least is 1 2 3 4", 15, y.soOld(0, 10, 1));
    }

    private static void ages() {
        promise = 26;
        AgingLetters x = with("o9;p2,1;p2,1;f9,1;s5,1;r10,20;r50,60;");
        x.row(0, 0, 8);
        int[] told = {12, 13, 16, 17, 19, 20, 21, 22};
        for (int i = 0; i < 8; i++) x.set(0, i, told[i]);
        due("12: either p2", 2, x.ages(0, 0, 0, 1));
        due("13: none, or f9", 4, x.ages(0, 0, 0, 2));
        due("16: the other p2", 4, x.ages(0, 0, 0, 3));
        due("17: none, or f9 if not yet", 2 * 3, x.ages(0, 0, 0, 4));
        due("19: s5", 2 * 3, x.ages(0, 0, 0, 5));
        due("20: none, or f9 if not yet", 2 * 4, x.ages(0, 0, 0, 6));
        due("13 at first", 0, x.ages(0, 0, 1, 1));
        due("another one", 0, x.ages(1, 0, 0, 1));
        x.day();
        x.read(0, 0);
        due("from DAY 0, as never READ", 4, x.ages(0, 0, 0, 2));
        x.cross(1, 1);
        due("PAGES now", 1, x.ages(0, 0, 0, 1));
        due("n 0", BAD, x.ages(0, 0, 0, 0));
        due("n 7", BAD, x.ages(0, 0, 0, 7));
        due("reader 2", BAD, x.ages(2, 0, 0, 1));
        due("reader -1", BAD, x.ages(-1, 0, 0, 1));
        due("row 8", BAD, x.ages(0, 8, 0, 1));
        due("missing, n 7", BAD, x.ages(0, 1, 0, 7));
        due("NULL", NULL, x.ages(0, 1, -1, 1));
        due("PLACE", PLACE, x.ages(0, 0, -1, 1));
        due("PLACE at the end", PLACE, x.ages(0, 0, 3, 6));
        due("the end", 0, x.ages(0, 0, 2, 6));
        due("PLACE HIGH", PLACE, x.ages(0, 0, HIGH, 6));
        due("PLACE LOW", PLACE, x.ages(0, 0, LOW, 6));
        x.row(2, 2, 2);
        x.set(2, 0, HIGH);
        x.set(2, 1, LOW);
        due("no ages", 0, x.ages(0, 2, 0, 2));
        AgingLetters y = with("o9;f1,1;f2,1;f3,1;f4,1;f5,1;f6,1;r10,20;");
        y.row(0, 0, 6);
        for (int i = 0; i < 6; i++) y.set(0, i, 10 + i);
        due("all rows of six", 13327, y.ages(0, 0, 0, 6));
    }

    private static void burnt() {
        promise = 27;
        AgingLetters x = with(OFFICE);
        due("above", 153, x.burnt(0, 3, 0));
        due("below", 1000, x.burnt(0, 3, 1));
        due("none burn", 0, x.burnt(0, 0, 0));
        due("0 by 1", 1, x.burnt(0, 0, 1));
        due("all burn", 1, x.burnt(0, 10, 0));
        due("1 by 1", 1, x.burnt(0, 10, 1));
        due("not FIT", 12213, x.burnt(3, 3, 0));
        due("c 11", BAD, x.burnt(0, 11, 0));
        due("c -1", BAD, x.burnt(0, -1, 0));
        due("what 2", BAD, x.burnt(0, 3, 2));
        due("what -1", BAD, x.burnt(0, 3, -1));
        due("reader 4", BAD, x.burnt(4, 3, 0));
        x.read(0, 5);
        due("dead", STATE, x.burnt(0, 3, 0));
        due("dead, BAD", BAD, x.burnt(0, 11, 0));
        AgingLetters y = with("o99;p5,1;p9,1;r10,15;r10,99;");
        due("both burn: 4 of 10 by 4 of 10", 4, y.burnt(0, 4, 0));
        due("4 by 25", 25, y.burnt(0, 4, 1));
        y.read(1, 0);
        due("what was READ does not count: 2 of 5", 2, y.burnt(0, 4, 0));
        due("2 of 5", 5, y.burnt(0, 4, 1));
        y.read(1, 1);
        due("all READ", 1, y.burnt(0, 4, 0));
        due("all READ", 1, y.burnt(0, 4, 1));
    }

    private static void images() {
        promise = 28;
        AgingLetters x = new AgingLetters();
        due("BAD ahead of STATE", BAD, x.image(2));
        due("no OFFICE", STATE, x.image(1));
        x = with(OFFICE);
        x.cross(0, 2);
        x.aloud(0, 2, 0);
        x.day();
        due("image(0)", 1, x.image(0));
        due("acts stay", 3, x.count(7));
        due("image(-1)", BAD, x.image(-1));
        promise = 29;
        due("restore(1)", STATE, x.restore(1));
        due("restore(2)", BAD, x.restore(2));
        due("restore(-1)", BAD, x.restore(-1));
        x.day();
        x.read(1, 1);
        x.cross(0, 1);
        due("image(1)", 1, x.image(1));
        due("restore(0)", 1, x.restore(0));
        due("no acts", STATE, x.undo());
        due("DAY", 1, x.count(3));
        due("PAGES", 10, x.letter(0, 0));
        due("AGE", 31, x.reader(0, 0));
        due("READ", 1, x.reader(0, 4));
        due("HEARD", 1, x.reader(1, 5));
        due("not READ", 0, x.reader(1, 4));
        x.row(0, 0, 3);
        x.feed('o');
        due("restore(1)", 1, x.restore(1));
        due("READ", 2, x.reader(1, 4));
        due("ROWS stay", 1, x.count(0));
        due("the tape stays", 1, x.count(8));
        x.read(0, 3);
        due("what is done then can be undone", 0, x.undo());
        x.day();
        due("the image is kept", 1, x.restore(1));
        due("DAY", 2, x.count(3));
        feedAll(x, "9;");
        due("another office", 0, x.office());
        due("image(0)", 1, x.image(0));
        due("restore(1)", 1, x.restore(1));
        due("the old one, whole", 6 + 4, x.count(1) + x.count(2));
        due("first AGE, too", 2, x.soOld(0, 22, 0));
        due("RETIRES, too", 1, x.reader(1, 3));
        due("DUE, too", 5, x.letter(0, 1));
        due("SPAN, too", 50, x.reader(0, 1));
        due("SORTS, too", 2, x.kind(1));
        due("restore(0)", 1, x.restore(0));
        due("the new one", 0, x.count(1));
    }

    private static void kinds() {
        promise = 30;
        AgingLetters x = with(OFFICE);
        int[] kinds = {1, 2, 3, 4, 5, 1};
        for (int l = 0; l < 6; l++) due("kind(" + l + ")", kinds[l], x.kind(l));
        due("kind(6)", BAD, x.kind(6));
        due("kind(-1)", BAD, x.kind(-1));
        promise = 31;
        String[] yes = {"01", "012", "013", "04", "045", "01"};
        for (int l = 0; l < 6; l++) {
            for (int k = 0; k < 6; k++) {
                due("as(" + l + ", " + k + ")", yes[l].indexOf('0' + k) >= 0 ? l : KIND, x.as(l, k));
            }
        }
        due("as(0, 6)", BAD, x.as(0, 6));
        due("as(0, -1)", BAD, x.as(0, -1));
        due("as(6, 0)", BAD, x.as(6, 0));
        due("as(-1, 0)", BAD, x.as(-1, 0));
    }

    private static void asked(AgingLetters x, int letter, int what, int answer, int... trace) {
        promise = 32;
        due("ask(" + letter + ", " + what + ")", answer, x.ask(letter, what));
        promise = 33;
        for (int i = 0; i < trace.length; i++) due("trace(" + i + ")", trace[i], x.trace(i));
        due("its end", NONE, x.trace(trace.length));
    }

    private static void asks() {
        AgingLetters x = with(OFFICE);
        x.read(0, 0);
        x.read(0, 0);
        x.read(1, 1);
        x.read(1, 2);
        x.read(1, 3);
        x.read(1, 4);
        asked(x, 0, 0, 12 + 2, 11, 10, 21, 20);
        asked(x, 0, 1, 2, 21, 20);
        asked(x, 1, 0, -(7 + 2 * 2), 12, 11, 10, 24, 21, 20);
        asked(x, 1, 1, 2 * (1 + 1), 24, 21, 20);
        asked(x, 2, 0, 9 + 3 - 1000, 11, 10, 22, 21, 20);
        asked(x, 2, 1, 3 - 1000, 22, 21, 20);
        asked(x, 3, 0, 30 - 100, 13, 10);
        asked(x, 3, 1, 3 - (30 - 100), 23, 20, 13, 10);
        asked(x, 4, 0, 2 * (25 - 100), 14, 13, 10);
        asked(x, 4, 1, 4 - 2 * (25 - 100), 23, 20, 14, 13, 10);
        asked(x, 5, 0, 40 + 5, 11, 10, 21, 20);
        x.ask(4, 0);
        promise = 32;
        due("ask(6, 0)", BAD, x.ask(6, 0));
        due("ask(-1, 0)", BAD, x.ask(-1, 0));
        due("ask(0, 2)", BAD, x.ask(0, 2));
        due("ask(0, -1)", BAD, x.ask(0, -1));
        promise = 33;
        due("THE TRACE stays", 14, x.trace(0));
        due("trace(-1)", NONE, x.trace(-1));
        due("trace(16)", NONE, x.trace(16));
        due("trace(HIGH)", NONE, x.trace(HIGH));
        due("trace(LOW)", NONE, x.trace(LOW));
    }

    private static void counts() {
        promise = 34;
        AgingLetters x = with(OFFICE);
        x.row(1, 0, 0);
        x.row(7, 0, 2);
        x.feed('o');
        x.read(0, 3);
        x.read(1, 3);
        x.day();
        x.day();
        x.read(0, 5);
        int[] due = {2, 6, 4, 2, 3, 1, 5, 5, 1};
        for (int what = 0; what < 9; what++) due("count(" + what + ")", due[what], x.count(what));
        due("count(9)", BAD, x.count(9));
        due("count(-1)", BAD, x.count(-1));
    }

    private static void status() {
        promise = 35;
        AgingLetters x = with(OFFICE);
        due("none", 0, x.status());
        x.drop(0);
        due("NULL", 1, x.status());
        x.row(0, 0, 3);
        due("row", 0, x.status());
        x.set(0, 3, 0);
        due("PLACE", 2, x.status());
        x.row(8, 0, 0);
        x.set(8, 0, 0);
        x.copy(0, 0, 8, 0, 0);
        x.drop(-1);
        x.as(0, 6);
        x.ages(0, 0, 0, 7);
        due("BAD is passed over", 2, x.status());
        x.read(9, 0);
        x.read(0, 0);
        x.undo();
        x.undo();
        x.feed('o');
        x.office();
        x.ask(0, 0);
        due("others are passed over", 2, x.status());
        x.set(0, 0, 0);
        due("set", 0, x.status());
        x.as(0, 2);
        due("KIND", 3, x.status());
        x.copy(0, 0, 0, 0, 3);
        due("copy", 0, x.status());
        x.row(0, 0, -1);
        due("SIZE", 4, x.status());
        x.as(0, 1);
        due("as", 0, x.status());
        x.row(1, 1, 3);
        x.copy(0, 0, 1, 0, 0);
        due("STORE", 5, x.status());
        x.ages(0, 0, 0, 1);
        due("ages", 0, x.status());
        x.ages(0, 2, 0, 1);
        due("ages NULL", 1, x.status());
        x.ages(0, 0, 3, 1);
        due("ages PLACE", 2, x.status());
        x.drop(0);
        due("drop", 0, x.status());
        x.row(0, 2, 1);
        x.as(0, 5);
        x.set(0, 0, BAD);
        due("an ITEM that reads as BAD", 0, x.status());
        x.as(0, 5);
        feedAll(x, "o1;");
        x.office();
        due("an OFFICE", 3, x.status());
    }
}
