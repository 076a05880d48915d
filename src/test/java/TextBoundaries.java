/** The edges of THE TAPE and its text: promises 1, 6, 7, 8. */
public final class TextBoundaries {
    private static final int BAD = Run.BAD, STATE = Run.STATE, FULL = Run.FULL, NONE = Run.NONE;
    private static final String TOKENS = "abcdefghijklmnopqrstuvwxyz0123456789,;";
    private static final String SIX_LETTERS = "o1;p1,1;v1,1;l1,1;f1,1;s1,1;p1,1;";
    private static final String FOUR_READERS = "r0,1;r1,2;r2,3;r3,4;";
    private static final String LONGEST = "o999;p040,099;v040,099;l040,099;f040,099;s040,099;p040,099;"
            + "r099,999;r099,999;r099,999;r099,999;";

    public static void main(String[] args) {
        newObject();
        bytesFed();
        fullTape();
        emptyTape();
        textsCutShort();
        endOfTheTape();
        noToken();
        lettersWhereNoneStands();
        longNumbers();
        leadingNoughts();
        retires();
        pages();
        due();
        ages();
        spans();
        mostLetters();
        mostReaders();
        order();
        firstOfSeveral();
        leastOfOne();
        longestText();
        faultNumbers();
        faultLeavesAll();
        anotherOffice();
        readersCounted();
        Run.end();
    }

    /** A text with a FAULT at a place, read where there was no OFFICE, and where there was one. */
    private static void fault(String text, int place, int number) {
        Run.fresh().feedAll(text).due("office()", -1000100 - place).due("fault()", number).due("count(8)", 0)
                .due("count(1)", 0).due("count(2)", 0).due("day()", STATE).due("image(0)", STATE);
    }

    private static Run stands(String text, int letters, int readers) {
        return Run.fresh().feedAll(text).due("office()", readers).due("fault()", 0).due("count(1)", letters)
                .due("count(2)", readers).due("count(8)", 0);
    }

    private static void newObject() {
        Run.says("No OFFICE (none at first)");
        Run x = Run.fresh();
        for (int what = 0; what <= 8; what++) x.due("count(" + what + ")", 0);
        x.due(BAD, "reader(0, 0)", "letter(0, 0)", "costs(0, 0)", "read(0, 0)", "aloud(0, 0, 0)", "cross(0, 1)");
        x.due(BAD, "best(0)", "bestAloud(0, 0)", "kills(0)", "post(0, 0)", "crossOut(0, 0)", "dies(0)");
        x.due(BAD, "soOld(0, 0, 0)", "ages(0, 0, 0, 1)", "burnt(0, 0, 0)", "kind(0)", "as(0, 0)", "ask(0, 0)");
        x.due(STATE, "day()", "undo()", "allRead(-1)", "late(0)", "image(0)", "image(1)", "restore(0)", "restore(1)");
        x.due("fault()", 0).due("status()", 0).due("trace(0)", NONE);
    }

    private static void bytesFed() {
        Run.says("A byte (0 to 255) comes behind the tape: how many it has");
        Run.fresh().due("feed(0)", 1).due("feed(255)", 2).due("feed(128)", 3)
                .due(BAD, "feed(-1)", "feed(256)", "feed(HIGH)", "feed(LOW)").due("count(8)", 3).due("feed(127)", 4);
    }

    private static void fullTape() {
        Run.says("THE TAPE has at most 120 bytes");
        Run x = Run.fresh();
        for (int n = 1; n <= 120; n++) x.due("feed(111)", n);
        x.due(FULL, "feed(111)", "feed(0)", "feed(255)").due("count(8)", 120);
        Run.says("feed: BAD ahead of FULL");
        x.due(BAD, "feed(256)", "feed(-1)").due("count(8)", 120);
        Run.says("The tape, empty then, is read: a full one, too");
        x.due("office()", -1000101).due("count(8)", 0).due("feed(111)", 1);
        Run.says("of a full tape every byte is read");
        String law = "o" + "1".repeat(119);
        fault(law, 1, 1);
        fault("o1;" + "r0,1;".repeat(4) + "z".repeat(97), 23, 1);
        Run.fresh().feedAll(LONGEST + "r".repeat(120 - LONGEST.length())).due("count(8)", 120)
                .due("office()", -1000100 - LONGEST.length()).due("fault()", 3);
    }

    private static void emptyTape() {
        Run.says("the end: how many bytes there are: an empty tape");
        fault("", 0, 1);
        Run.says("the tape is empty behind an OFFICE that was read");
        stands("o9;r1,2;", 0, 1).due("office()", -1000100).due("fault()", 1).due("count(2)", 1);
    }

    /** Where a text may end: behind the law, a letter, a reader. */
    private static void textsCutShort() {
        Run.says("the end: how many bytes there are");
        String text = "o60;p12,50;v7,3;l9,9;f30,2;s25,4;p40,8;r2,50;r30,70;r0,999;r1,2;";
        int letters = 0, readers = 0;
        for (int n = 0; n <= text.length(); n++) {
            String begin = text.substring(0, n);
            if (!begin.endsWith(";")) {
                // "r30,7" has a SPAN not above AGE, which stands ahead of the end.
                boolean spanCut = begin.endsWith("r30,7");
                fault(begin, spanCut ? n - 1 : n, spanCut ? 2 : 1);
                continue;
            }
            if (begin.indexOf('r') >= 0) readers++;
            else if (n > 4) letters++;
            stands(begin, letters, readers);
        }
    }

    private static void endOfTheTape() {
        Run.says("the end: what an earlier text had behind it is not read");
        Run.fresh().feedAll("o111;p11,11;r11,111;").due("office()", 1).feedAll("o1").due("office()", -1000102).due("fault()", 1)
                .feedAll("o111;p1").due("office()", -1000107).due("fault()", 1).feedAll("o111;p11,1").due("office()", -1000110)
                .due("fault()", 1).feedAll("o111;").due("office()", 0).feedAll("o111;p11,11").due("office()", -1000111);
    }

    private static void noToken() {
        Run.says("letters a to z, figures, the SIGNS , and ; nothing else, no blanks");
        String text = "o1;p2,3;r4,5;";
        for (int at = 0; at <= text.length(); at++) {
            for (int c = 0; c < 256; c++) {
                if (TOKENS.indexOf((char) c) >= 0) continue;
                fault(text.substring(0, at) + (char) c + text.substring(at), at, 1);
            }
        }
    }

    private static void lettersWhereNoneStands() {
        Run.says("1 it cannot stand there: the letters a to z");
        for (char c = 'a'; c <= 'z'; c++) {
            if (c != 'o') fault(c + "1;", 0, 1);
            if ("pvlfsr".indexOf(c) < 0) fault("o1;" + c + "1,2;", 3, 1);
            if ("pvlfsr".indexOf(c) >= 0) stands("o1;" + c + "1,2;", c == 'r' ? 0 : 1, c == 'r' ? 1 : 0);
            fault("o1" + c, 2, 1);
            fault("o1;p1" + c, 5, 1);
            fault("o1;p" + c, 4, 1);
        }
        Run.says("each by itself");
        fault("op1;", 1, 1);
        fault("oo1;", 1, 1);
        fault("o1;pp1,1;", 4, 1);
        fault("o1;rr1,2;", 4, 1);
        Run.says("1 it cannot stand there: NUMBERS, SIGNS");
        String[] starts = {"1", ",", ";", "o1;1", "o1;,", "o1;;", "o,", "o;", "o1,", "o1;p,", "o1;p;", "o1;p1;", "o1;p1,,",
            "o1;p1,;", "o1;p1,1,", "o1;r,", "o1;r;", "o1;r1;", "o1;r1,,", "o1;r1,;", "o1;r1,2,"};
        for (String start : starts) {
            fault(start, start.length() - 1, 1);
            fault(start + "1,1;", start.length() - 1, 1);
        }
    }

    private static void longNumbers() {
        Run.says("a run of four figures or more, at its first");
        String[] noughts = {"0000", "0001", "1000", "9999", "00000000000000000001", "99999999999", "4294967297"};
        for (String run : noughts) {
            fault("o" + run + ";", 1, 1);
            fault("o1;p" + run + ",1;", 4, 1);
            fault("o1;p1," + run + ";", 6, 1);
            fault("o1;r" + run + ",9;", 4, 1);
            fault("o1;r0," + run + ";", 6, 1);
            fault("o" + run, 1, 1);
        }
    }

    private static void leadingNoughts() {
        Run.says("NUMBERS (figures, 3 at most)");
        stands("o1;", 0, 0);
        stands("o01;", 0, 0);
        stands("o001;", 0, 0);
        stands("o100;", 0, 0);
        stands("o9;p001,099;", 1, 0).due("letter(0, 0)", 1).due("letter(0, 1)", 99);
        stands("o9;p040,001;", 1, 0).due("letter(0, 0)", 40).due("letter(0, 1)", 1);
        stands("o9;r000,001;", 0, 1).due("reader(0, 0)", 0).due("reader(0, 1)", 1);
        stands("o9;r099,100;", 0, 1).due("reader(0, 0)", 99).due("reader(0, 1)", 100);
    }

    private static void retires() {
        Run.says("o RETIRES ; (1 to 999)");
        fault("o0;", 1, 2);
        fault("o00;", 1, 2);
        fault("o000;", 1, 2);
        stands("o1;r0,2;r1,2;", 0, 2).due("reader(0, 3)", 1).due("reader(1, 3)", 0);
        stands("o999;r99,999;", 0, 1).due("reader(0, 3)", 1);
        fault("o1000;", 1, 1);
    }

    private static void pages() {
        Run.says("PAGES (1 to 40)");
        for (char sort : "pvlfs".toCharArray()) {
            fault("o1;" + sort + "0,1;", 4, 2);
            fault("o1;" + sort + "000,1;", 4, 2);
            stands("o1;" + sort + "1,1;", 1, 0).due("letter(0, 0)", 1);
            stands("o1;" + sort + "40,1;", 1, 0).due("letter(0, 0)", 40);
            fault("o1;" + sort + "41,1;", 4, 2);
            fault("o1;" + sort + "041,1;", 4, 2);
            fault("o1;" + sort + "999,1;", 4, 2);
        }
    }

    private static void due() {
        Run.says("DUE (1 to 99)");
        for (char sort : "pvlfs".toCharArray()) {
            fault("o1;" + sort + "1,0;", 6, 2);
            fault("o1;" + sort + "1,00;", 6, 2);
            stands("o1;" + sort + "1,1;", 1, 0).due("letter(0, 1)", 1);
            stands("o1;" + sort + "1,99;", 1, 0).due("letter(0, 1)", 99);
            fault("o1;" + sort + "1,100;", 6, 2);
            fault("o1;" + sort + "40,999;", 7, 2);
        }
    }

    private static void ages() {
        Run.says("AGE (0 to 99)");
        stands("o1;r0,1;", 0, 1).due("reader(0, 0)", 0);
        stands("o1;r99,999;", 0, 1).due("reader(0, 0)", 99);
        fault("o1;r100,999;", 4, 2);
        fault("o1;r999,999;", 4, 2);
    }

    private static void spans() {
        Run.says("SPAN (above AGE, 999 at most)");
        fault("o1;r0,0;", 6, 2);
        fault("o1;r0,000;", 6, 2);
        fault("o1;r50,49;", 7, 2);
        fault("o1;r50,50;", 7, 2);
        fault("o1;r50,0;", 7, 2);
        stands("o1;r50,51;", 0, 1).due("reader(0, 1)", 51);
        fault("o1;r99,99;", 7, 2);
        stands("o1;r99,100;", 0, 1).due("reader(0, 1)", 100);
        stands("o1;r0,999;", 0, 1).due("reader(0, 1)", 999);
        fault("o1;r0,1000;", 6, 1);
        Run.says("above this AGE, not above another's");
        fault("o1;r0,1;r9,9;", 11, 2);
        stands("o1;r9,10;r0,1;", 0, 2).due("reader(1, 1)", 1);
    }

    private static void mostLetters() {
        Run.says("LETTERS 0 .. 5, 6 at most");
        stands("o1;", 0, 0).due("letter(0, 0)", BAD);
        stands(SIX_LETTERS, 6, 0).due("letter(5, 0)", 1).due("letter(6, 0)", BAD);
        Run.says("3 a letter more than there is room for (its first byte)");
        for (char sort : "pvlfs".toCharArray()) {
            fault(SIX_LETTERS + sort, 33, 3);
            fault(SIX_LETTERS + sort + "1,1;", 33, 3);
            // Its own NUMBER stands behind its first byte.
            fault(SIX_LETTERS + sort + "0,1;", 33, 3);
            fault(SIX_LETTERS + sort + sort, 33, 3);
        }
        fault(SIX_LETTERS + "o", 33, 1);
        fault(SIX_LETTERS + "a", 33, 1);
        stands(SIX_LETTERS + "r1,2;", 6, 1);
    }

    private static void mostReaders() {
        Run.says("READERS 0 .. 3, 4 at most");
        stands("o1;", 0, 0).due("reader(0, 0)", BAD);
        stands("o1;" + FOUR_READERS, 0, 4).due("reader(3, 0)", 3).due("reader(4, 0)", BAD);
        stands(SIX_LETTERS + FOUR_READERS, 6, 4).due("reader(3, 1)", 4);
        Run.says("3 a reader more than there is room for (its first byte)");
        fault("o1;" + FOUR_READERS + "r", 23, 3);
        fault("o1;" + FOUR_READERS + "r1,2;", 23, 3);
        fault("o1;" + FOUR_READERS + "r100,2;", 23, 3);
        fault("o1;" + FOUR_READERS + "rr", 23, 3);
        fault(SIX_LETTERS + FOUR_READERS + "r", 53, 3);
        fault("o1;" + FOUR_READERS + "o", 23, 1);
    }

    private static void order() {
        Run.says("office: law { letter } { reader }");
        fault("p1,1;", 0, 1);
        fault("r1,2;", 0, 1);
        fault("o1;o1;", 3, 1);
        fault("o1;p1,1;o1;", 8, 1);
        fault("o1;r1,2;o1;", 8, 1);
        for (char sort : "pvlfs".toCharArray()) {
            fault("o1;r1,2;" + sort + "1,1;", 8, 1);
            fault("o1;p1,1;r1,2;" + sort, 13, 1);
            fault("o1;" + FOUR_READERS + sort + "1,1;", 23, 1);
        }
        stands("o1;p1,1;r1,2;", 1, 1);
    }

    private static void firstOfSeveral() {
        Run.says("FAULTS, the first TOKEN that has one (its first byte)");
        fault("o0;p0,0;", 1, 2);
        fault("o0,", 1, 2);
        fault("o0", 1, 2);
        fault("o1,0;", 2, 1);
        fault("o1;p41;", 4, 2);
        fault("o1;p41,100;", 4, 2);
        fault("o1;p1,100", 6, 2);
        fault("o1;p1;0", 5, 1);
        fault("o1;r100,0;", 4, 2);
        fault("o1;r1,1,", 6, 2);
        fault("o1;p1,1;p12,100;p0,1;", 12, 2);
        fault("o1;p1,1;r12,12;q", 12, 2);
    }

    private static void leastOfOne() {
        Run.says("of one TOKEN the least");
        fault(SIX_LETTERS + "r1,2;p1,1;", 38, 1);
        fault(SIX_LETTERS + FOUR_READERS + "p", 53, 1);
        fault("o1;0", 3, 1);
        fault("o1;999;", 3, 1);
        fault("o1;p1,1;r0,1;0", 13, 1);
        fault("o1;p9999,1;", 4, 1);
    }

    private static void longestText() {
        Run.says("the longest text that tells an OFFICE");
        stands(LONGEST, 6, 4).due("letter(5, 0)", 40).due("letter(5, 1)", 99).due("reader(3, 0)", 99).due("reader(3, 1)", 999);
        fault(LONGEST + "r", 95, 3);
        fault(LONGEST + "p", 95, 1);
        fault(LONGEST + "0", 95, 1);
        Run.says("the shortest text that tells an OFFICE");
        stands("o1;", 0, 0).due("day()", 1);
    }

    private static void faultNumbers() {
        Run.says("The number of the latest FAULT; 0 before one");
        Run x = Run.fresh().due("fault()", 0).feedAll("o9;").due("office()", 0).due("fault()", 0);
        x.feedAll("o0;").due("office()", -1000101).due("fault()", 2).feedAll("o9;").due("office()", 0).due("fault()", 2);
        x.feedAll(SIX_LETTERS + "p").due("office()", -1000133).due("fault()", 3);
        x.due("office()", -1000100).due("fault()", 1).due("feed(999)", BAD).due("fault()", 1);
        x.then("image(0) restore(0)").due("fault()", 1);
    }

    private static void faultLeavesAll() {
        Run.says("-1000100 less the place of a FAULT: all stays, but the tape is empty then");
        Run x = Run.of("o60;p9,9;f2,2;r10,90;r20,80;").then("read(0, 0) aloud(0, 2, 1) day() cross(0, 3) row(2, 1, 7) image(1)")
                .then("ask(0, 1) drop(0)");
        x.feedAll("o70;v1,1;v1,1;v1,1;r1,5;r1,0;").due("office()", -1000127).due("fault()", 2).due("count(8)", 0);
        x.due("count(1)", 2).due("count(2)", 2).due("count(3)", 1).due("count(7)", 4).due("reader(0, 0)", 20)
                .due("reader(1, 5)", 2).due("reader(0, 4)", 3).due("letter(0, 0)", 6).due("kind(0)", 1).due("status()", 1)
                .due("trace(0)", 21).due("reader(0, 1)", 90).due("letter(0, 1)", 9).due("count(0)", 1);
        x.due("undo()", 3).due("undo()", 2).due("undo()", 1).due("undo()", 0).due("undo()", STATE).due("reader(0, 0)", 10)
                .due("letter(0, 0)", 9).due("restore(1)", 1).due("letter(0, 0)", 6).due("drop(2)", 7);
        Run.says("a FAULT where no OFFICE was leaves none");
        Run.fresh().feedAll("o9;p1,1;r1,2;r1,1").due("office()", -1000116).due(BAD, "letter(0, 0)", "reader(0, 0)")
                .due(STATE, "day()", "late(0)", "allRead(-1)", "image(0)").due("count(6)", 0);
    }

    private static void anotherOffice() {
        Run.says("An OFFICE that is read stands in place of the one before: DAY 0, nothing was READ, or HEARD");
        Run x = Run.of("o60;f9,9;f2,2;r10,90;r20,80;r1,9;").then("read(0, 0) aloud(0, 6, 1) aloud(1, 1, 0) day() day()")
                .then("row(0, 2, 5) image(0)").feedAll("o60;f9,9;f2,2;r10,90;r20,80;").due("office()", 2);
        x.due("count(3)", 0).due("count(6)", 2).due(0, "letter(0, 2)", "letter(0, 3)", "letter(1, 2)", "letter(1, 3)");
        x.due(0, "reader(0, 4)", "reader(1, 4)", "reader(0, 5)", "reader(1, 5)").due("reader(2, 0)", BAD).due("reader(0, 0)", 10);
        Run.says("no ACT can be undone");
        x.due("count(7)", 0).due("undo()", STATE);
        Run.says("IMAGES and ROWS stay");
        x.due("count(0)", 1).due("drop(0)", 5).due("restore(0)", 1).due("count(2)", 3).due("count(3)", 2).due("reader(0, 4)", 3)
                .due("reader(2, 5)", 2);
        Run.says("an OFFICE of less stands in place of a greater one, and one of more");
        Run y = Run.of(SIX_LETTERS + FOUR_READERS).feedAll("o1;").due("office()", 0).due(0, "count(1)", "count(2)", "count(4)");
        y.due(BAD, "letter(0, 0)", "reader(0, 0)", "kind(0)").due("day()", 1).feedAll(SIX_LETTERS + FOUR_READERS);
        y.due("office()", 4).due("count(1)", 6).due("count(3)", 0).due("reader(3, 0)", 3);
    }

    private static void readersCounted() {
        Run.says("how many READERS there are");
        for (int n = 0; n <= 4; n++) stands("o1;" + FOUR_READERS.substring(0, 5 * n), 0, n);
    }
}
