/** The edges of what LETTERS COST, of ACTS, IMAGES and what is told of all: promises 9 to 16, 28, 29, 34. */
public final class ActBoundaries {
    private static final int BAD = Run.BAD, STATE = Run.STATE;
    private static final String TWO = "o60;p12,5;f9,2;r20,50;r30,70;";

    public static void main(String[] args) {
        costsOfProse();
        costsOfVerse();
        costsOfLove();
        costsOfFigures();
        costsOfSealed();
        halfOfWhatWasRead();
        costsNumbers();
        alive();
        fit();
        readToTheEnd();
        readRefused();
        aloudToWhom();
        aloudTenths();
        aloudDeaths();
        aloudRefused();
        crossed();
        days();
        manyDays();
        actsKept();
        actsUndone();
        actsThatChangeNothing();
        whatIsNoAct();
        readersTold();
        lettersTold();
        imagesKept();
        imagesRestored();
        counts();
        Run.end();
    }

    /** What LETTERS of a SORT COST one who has not READ them, and one who has, by PAGES. */
    private static void costs(char sort, int[] pages, int[] first, int[] again) {
        for (int i = 0; i < pages.length; i++) {
            Run.of("o999;" + sort + pages[i] + ",1;r0,999;").due("costs(0, 0)", first[i]).due("read(0, 0)", first[i])
                    .due("costs(0, 0)", again[i]).due("read(0, 0)", first[i] + again[i]).due("costs(0, 0)", again[i]);
        }
    }

    private static void costsOfProse() {
        Run.says("prose its PAGES, half of it (cut up), if that reader has READ it before");
        costs('p', new int[] {1, 2, 3, 39, 40}, new int[] {1, 2, 3, 39, 40}, new int[] {1, 1, 2, 20, 20});
    }

    private static void costsOfVerse() {
        Run.says("verse three times that");
        costs('v', new int[] {1, 2, 3, 39, 40}, new int[] {3, 6, 9, 117, 120}, new int[] {2, 3, 5, 59, 60});
    }

    private static void costsOfLove() {
        Run.says("a love letter half of its PAGES (cut up)");
        costs('l', new int[] {1, 2, 3, 4, 39, 40}, new int[] {1, 1, 2, 2, 20, 20}, new int[] {1, 1, 1, 1, 10, 10});
        costs('l', new int[] {5, 6, 7}, new int[] {3, 3, 4}, new int[] {2, 2, 2});
    }

    private static void costsOfFigures() {
        Run.says("figures nothing");
        costs('f', new int[] {1, 2, 39, 40}, new int[] {0, 0, 0, 0}, new int[] {0, 0, 0, 0});
    }

    private static void costsOfSealed() {
        Run.says("a sealed one a tenth of its PAGES (cut up)");
        costs('s', new int[] {1, 9, 10, 11, 19, 20, 21, 30, 31, 40}, new int[] {1, 1, 1, 2, 2, 2, 3, 3, 4, 4},
                new int[] {1, 1, 1, 1, 1, 1, 2, 2, 2, 2});
    }

    private static void halfOfWhatWasRead() {
        Run.says("if that reader has READ it before: not another reader, not one who HEARD it");
        Run.of("o99;p9,1;r0,99;r0,99;").then("aloud(0, 2, 0)").due("costs(0, 0)", 5).due("costs(1, 0)", 9);
        Run.says("not another LETTER");
        Run.of("o99;p9,1;p9,1;r0,99;").then("read(0, 0)").due("costs(0, 0)", 5).due("costs(0, 1)", 9);
        Run.says("not one who died at it");
        Run.of("o99;p9,1;r0,9;").due("read(0, 0)", 9).due("costs(0, 0)", 9);
        Run.says("half of what it would COST as it is now");
        Run.of("o99;p9,1;r0,99;").then("read(0, 0) cross(0, 4)").due("costs(0, 0)", 3).then("cross(0, 4)").due("costs(0, 0)", 1);
        Run.says("no more when it is undone");
        Run.of("o99;p9,1;r0,99;").then("read(0, 0) read(0, 0) undo()").due("costs(0, 0)", 5).then("undo()").due("costs(0, 0)", 9);
        Run.says("what it COSTS is told of the dead, of the retired, too");
        Run.of("o9;p9,1;r9,10;").due("costs(0, 0)", 9).then("day()").due("costs(0, 0)", 9);
    }

    private static void costsNumbers() {
        Run.says("costs: BAD");
        Run.of(TWO).due("costs(0, 0)", 12).due("costs(1, 1)", 0)
                .due(BAD, "costs(-1, 0)", "costs(2, 0)", "costs(0, -1)", "costs(0, 2)", "costs(HIGH, 0)", "costs(0, LOW)");
    }

    private static void alive() {
        Run.says("A reader is ALIVE at AGE below SPAN");
        Run.of("o99;f1,1;r8,10;").due("reader(0, 2)", 1).due("read(0, 0)", 8).then("day()").due("reader(0, 2)", 1)
                .due("read(0, 0)", 9).due("count(4)", 1).then("day()").due("reader(0, 2)", 0).due("read(0, 0)", STATE)
                .due("count(4)", 0).then("undo()").due("reader(0, 2)", 1).due("count(4)", 1);
    }

    private static void fit() {
        Run.says("FIT to read at AGE below RETIRES, too");
        Run.of("o10;f1,1;r8,99;").due("reader(0, 3)", 1).then("day()").due("reader(0, 3)", 1).due("read(0, 0)", 9)
                .due("count(5)", 1).then("day()").due("reader(0, 3)", 0).due("reader(0, 2)", 1).due("read(0, 0)", STATE)
                .due("count(5)", 0).due("count(4)", 1);
        Run.says("not FIT, though below RETIRES: it is not ALIVE");
        Run.of("o99;f1,1;r8,9;").then("day()").due("reader(0, 3)", 0).due("count(5)", 0).due("read(0, 0)", STATE);
    }

    private static void readToTheEnd() {
        Run.says("AGE is more by what it COSTS; if it is ALIVE then, it has READ it once more");
        Run.of("o99;p5,1;r4,10;").due("read(0, 0)", 9).due("reader(0, 4)", 1).due("letter(0, 2)", 1).due("letter(0, 3)", 1)
                .due("count(6)", 0);
        Run.of("o99;p5,1;r4,9;").due("read(0, 0)", 9).due("reader(0, 4)", 0).due("letter(0, 2)", 0).due("letter(0, 3)", 0)
                .due("count(6)", 1).due("reader(0, 2)", 0);
        Run.says("once more than it was");
        Run.of("o99;p4,1;r4,10;").then("read(0, 0)").due("read(0, 0)", 10).due("letter(0, 2)", 1).due("reader(0, 4)", 1)
                .due("reader(0, 2)", 0);
        Run.says("who retires at it has READ it");
        Run.of("o9;p5,1;r8,99;").due("read(0, 0)", 13).due("letter(0, 2)", 1).due("read(0, 0)", STATE);
        Run.says("the greatest COST, the greatest AGE");
        Run.of("o999;v40,1;v40,1;v40,1;v40,1;v40,1;v40,1;r99,820;")
                .then("read(0, 0) read(0, 1) read(0, 2) read(0, 3) read(0, 4)").due("read(0, 5)", 819).due("reader(0, 4)", 63)
                .due("read(0, 5)", 879).due("letter(5, 2)", 1);
    }

    private static void readRefused() {
        Run.says("read: BAD");
        Run x = Run.of(TWO);
        x.due(BAD, "read(-1, 0)", "read(2, 0)", "read(HIGH, 0)", "read(LOW, 0)");
        x.due(BAD, "read(0, -1)", "read(0, 2)", "read(0, HIGH)", "read(0, LOW)").due("count(7)", 0).due("reader(0, 0)", 20);
        Run.says("read: BAD ahead of STATE");
        Run.of("o5;f1,1;r5,9;").due("read(0, 0)", STATE).due(BAD, "read(0, 1)", "read(0, -1)", "read(1, 0)").due("count(7)", 0);
    }

    private static void aloudToWhom() {
        Run.says("One READS ALOUD to others (to none, too)");
        Run.of(TWO).due("aloud(0, 0, 0)", 32).due("reader(1, 0)", 30).due("reader(1, 5)", 0).due("letter(0, 3)", 1)
                .due("reader(0, 5)", 0);
        Run.says("to all others");
        Run.of("o99;p1,1;r1,99;r2,99;r3,99;r4,99;").due("aloud(0, 14, 0)", 2).due("reader(1, 0)", 3).due("reader(2, 0)", 4)
                .due("reader(3, 0)", 5).due("aloud(3, 7, 0)", 6).due("reader(0, 0)", 3).due("reader(0, 5)", 1)
                .due("reader(3, 5)", 1).due("letter(0, 3)", 9).due("letter(0, 2)", 2).due("reader(1, 4)", 0);
        Run.says("others who are ALIVE, retired ones, too");
        Run.of("o9;p10,1;r1,99;r50,52;").due("aloud(0, 2, 0)", 11).due("reader(1, 0)", 51).due("reader(1, 5)", 1)
                .due("reader(1, 3)", 0);
    }

    private static void aloudTenths() {
        Run.says("older by a tenth of what it COSTS the reader (cut up)");
        int[] pages = {1, 9, 10, 11, 20, 21, 40}, tenths = {1, 1, 1, 2, 2, 3, 4};
        for (int i = 0; i < pages.length; i++) {
            Run.of("o99;p" + pages[i] + ",1;r0,99;r0,99;").due("aloud(0, 2, 0)", pages[i]).due("reader(1, 0)", tenths[i]);
        }
        Run.of("o99;f40,1;r0,99;r0,99;").due("aloud(0, 2, 0)", 0).due("reader(1, 0)", 0).due("reader(1, 5)", 1);
        Run.of("o999;v40,1;r0,999;r0,99;").due("aloud(0, 2, 0)", 120).due("reader(1, 0)", 12);
        Run.says("of what it COST as it was READ, not of what it COSTS behind it");
        Run.of("o99;p11,1;r0,99;r0,99;").then("aloud(0, 2, 0)").due("reader(1, 0)", 2).then("aloud(0, 2, 0)").due("reader(1, 0)", 3);
        Run.says("of what it COSTS the reader, not of what it COSTS who hears");
        Run.of("o99;p20,1;r0,99;r0,99;").then("read(1, 0)").due("aloud(0, 2, 0)", 20).due("reader(1, 0)", 22);
    }

    private static void aloudDeaths() {
        Run.says("also if that one dies at it");
        Run.of("o99;p20,1;r5,25;r0,99;").due("aloud(0, 2, 0)", 25).due("letter(0, 2)", 0).due("reader(0, 4)", 0)
                .due("reader(0, 2)", 0).due("reader(1, 0)", 2).due("reader(1, 5)", 1);
        Run.of("o99;p20,1;r5,26;r0,99;").due("aloud(0, 2, 0)", 25).due("letter(0, 2)", 1).due("reader(0, 4)", 1);
        Run.says("who hears may die at it, and has HEARD it");
        Run.of("o99;p20,1;r5,99;r0,2;r0,3;").due("aloud(0, 6, 0)", 25).due("reader(1, 0)", 2).due("reader(1, 2)", 0)
                .due("reader(1, 5)", 1).due("reader(2, 2)", 1).due("letter(0, 2)", 1).due("aloud(0, 2, 0)", STATE)
                .due("aloud(0, 4, 0)", 35);
    }

    private static void aloudRefused() {
        Run.says("aloud: BAD: itself, too");
        Run x = Run.of("o60;f9,5;r20,50;r30,70;r61,90;");
        x.due(BAD, "aloud(0, 1, 0)", "aloud(0, 3, 0)", "aloud(0, 7, 0)", "aloud(1, 2, 0)", "aloud(2, 4, 0)", "aloud(2, 5, 0)");
        Run.says("aloud: BAD: readers that there are none of");
        x.due(BAD, "aloud(0, 8, 0)", "aloud(0, 16, 0)", "aloud(0, 10, 0)", "aloud(0, -1, 0)", "aloud(0, -2, 0)");
        x.due(BAD, "aloud(0, HIGH, 0)", "aloud(0, LOW, 0)", "aloud(0, 65536, 0)").due("aloud(0, 6, 0)", 20);
        Run.says("aloud: BAD: a reader, a LETTER");
        x.due(BAD, "aloud(-1, 0, 0)", "aloud(3, 0, 0)", "aloud(HIGH, 0, 0)", "aloud(LOW, 0, 0)", "aloud(32, 0, 0)");
        x.due(BAD, "aloud(0, 0, -1)", "aloud(0, 0, 1)", "aloud(0, 0, HIGH)", "aloud(0, 0, LOW)").due("count(7)", 1);
        Run.says("aloud: STATE: it is not FIT, one of them is not ALIVE");
        Run y = Run.of("o60;f9,5;r59,90;r30,99;r1,2;r60,99;").due("aloud(3, 0, 0)", STATE).due("aloud(0, 14, 0)", 59).then("day()");
        y.due(STATE, "aloud(0, 0, 0)", "aloud(0, 2, 0)", "aloud(2, 0, 0)", "aloud(1, 4, 0)", "aloud(1, 13, 0)");
        y.due("aloud(1, 9, 0)", 31).due("aloud(1, 0, 0)", 31);
        Run.says("aloud: STATE: one of them is not ALIVE, whichever it is");
        for (int dead = 0; dead < 4; dead++) {
            StringBuilder text = new StringBuilder("o60;f9,5;");
            for (int r = 0; r < 4; r++) text.append(r == dead ? "r0,1;" : "r0,9;");
            int reader = (dead + 1) % 4, itself = 1 << reader, gone = 1 << dead;
            Run x4 = Run.of(text.toString()).then("day()");
            for (int others = 1; others < 16; others++) {
                if ((others & itself) != 0) continue;
                x4.due("aloud(" + reader + ", " + others + ", 0)", (others & gone) != 0 ? STATE : 1);
            }
        }
        Run.says("aloud: BAD ahead of STATE");
        y.due(BAD, "aloud(0, 1, 0)", "aloud(3, 8, 0)", "aloud(0, 16, 0)", "aloud(0, 0, 1)", "aloud(1, 6, 0)", "aloud(1, 20, 0)");
    }

    private static void crossed() {
        Run.says("n PAGES (1 to 39) are CROSSED OUT");
        Run.of("o1;p40,1;").due(BAD, "cross(0, 0)", "cross(0, -1)", "cross(0, 40)", "cross(0, HIGH)", "cross(0, LOW)")
                .due("cross(0, 1)", 39).due("letter(0, 0)", 39).due("undo()", 0).due("cross(0, 39)", 1).due("letter(0, 0)", 1);
        Run.says("PAGES are CROSSED OUT (1 at least stays)");
        Run.of("o1;p1,1;p2,1;p5,1;").due("cross(0, 1)", STATE).due("cross(1, 2)", STATE).due("cross(1, 1)", 1)
                .due("cross(1, 1)", STATE).due("cross(2, 5)", STATE).due("cross(2, 4)", 1).due("count(7)", 2)
                .due("cross(0, 39)", STATE).due("letter(0, 0)", 1);
        Run.says("cross: BAD");
        Run.of(TWO).due(BAD, "cross(-1, 1)", "cross(2, 1)", "cross(HIGH, 1)", "cross(LOW, 1)").due("cross(1, 1)", 8);
        Run.says("cross: BAD ahead of STATE");
        Run.of("o1;p1,1;").due("cross(0, 39)", STATE).due(BAD, "cross(0, 40)", "cross(1, 39)");
        Run.says("what was READ can be CROSSED OUT, too");
        Run.of(TWO).then("read(0, 0)").due("cross(0, 11)", 1).due("letter(0, 2)", 1).due("costs(1, 0)", 1);
    }

    private static void days() {
        Run.says("A DAY goes by: all are a DAY older, ALIVE or not");
        Run.of("o9;r8,9;r1,99;").due("day()", 1).due("reader(0, 0)", 9).due("reader(0, 2)", 0).due("day()", 2)
                .due("reader(0, 0)", 10).due("reader(1, 0)", 3).due("count(3)", 2);
        Run.says("also of nobody");
        Run.of("o9;").due("day()", 1).due("count(7)", 1).due("undo()", 0).due("count(3)", 0);
        Run.says("day: STATE: no OFFICE");
        Run.fresh().due("day()", STATE).due("count(3)", 0).feedAll("o").due("office()", -1000101).due("day()", STATE);
    }

    private static void manyDays() {
        Run.says("as many DAYS as there are calls for");
        // DAY 999 lies beyond the 512th call: PromiseTests goes there all the same.
        Run x = Run.of("o1;r0,498;");
        for (int d = 1; d <= 497; d++) x.due("day()", d);
        x.due("reader(0, 2)", 1).due("day()", 498).due("reader(0, 2)", 0);
    }

    private static void actsKept() {
        Run.says("ACTS (24 at most are kept, of more the oldest is forgotten)");
        for (int acts = 23; acts <= 26; acts++) {
            Run x = Run.of("o1;r0,99;");
            for (int i = 0; i < acts; i++) x.call("day()");
            int kept = Math.min(acts, 24);
            x.due("count(7)", kept);
            for (int left = kept - 1; left >= 0; left--) x.due("undo()", left).due("count(7)", left);
            x.due("undo()", STATE).due("count(3)", acts - kept).due("reader(0, 0)", acts - kept);
        }
        Run.says("of more the oldest is forgotten: ACTS of all sorts");
        for (int more = 0; more < 5; more++) manySorts(24 + more * 9);
        Run.says("undone ones make room");
        Run x = Run.of("o1;");
        for (int i = 0; i < 24; i++) x.call("day()");
        for (int i = 0; i < 10; i++) x.then("undo() undo() day() day() day()").due("count(7)", 24);
        x.due("count(3)", 34);
        for (int left = 23; left >= 0; left--) x.due("undo()", left);
        x.due("undo()", STATE).due("count(3)", 10);
    }

    /** So many ACTS, of which the last 24 are undone in turn: each time all is as it was ahead of one. */
    private static void manySorts(int acts) {
        String[] sorts = {"aloud(0, 2, 0)", "cross(1, 1)", "day()", "read(1, 0)", "aloud(1, 1, 1)", "cross(0, 1)", "aloud(0, 0, 2)"};
        Run x = Run.of("o999;l40,1;s40,1;p1,1;r0,999;r0,999;");
        int[][] ahead = new int[acts][];
        for (int act = 0; act < acts; act++) {
            if (act >= acts - 24) ahead[act] = seen(x);
            x.call(sorts[act % sorts.length]);
        }
        x.due("count(7)", 24);
        for (int act = acts - 1; act >= acts - 24; act--) {
            x.due("undo()", act - (acts - 24));
            int[] behind = seen(x);
            for (int i = 0; i < behind.length; i++) x.same("number " + i + ", act " + act + " undone,", ahead[act][i], behind[i]);
        }
        x.due("undo()", STATE);
    }

    private static int[] seen(Run x) {
        String[] calls = {"reader(0, 0)", "reader(1, 0)", "letter(0, 0)", "letter(1, 0)", "letter(0, 2)", "letter(2, 2)", "count(3)"};
        int[] seen = new int[calls.length];
        for (int i = 0; i < calls.length; i++) seen[i] = x.call(calls[i]);
        return seen;
    }

    private static void actsUndone() {
        Run.says("each can be undone, the latest first: PAGES CROSSED OUT");
        Run.of("o1;p40,1;v40,1;").then("cross(0, 1) cross(1, 5) cross(0, 9)").due("undo()", 2).due("letter(0, 0)", 39)
                .due("undo()", 1).due("letter(1, 0)", 40).due("undo()", 0).due("letter(0, 0)", 40);
        Run.says("each can be undone: one READS");
        Run.of("o99;p9,1;r0,99;").then("read(0, 0) read(0, 0)").due("undo()", 1).due("reader(0, 0)", 9).due("letter(0, 2)", 1)
                .due("undo()", 0).due("reader(0, 0)", 0).due("letter(0, 2)", 0).due("reader(0, 4)", 0).due("count(6)", 1);
        Run.says("each can be undone: one who died at it lives");
        Run.of("o99;p9,1;r0,9;").then("read(0, 0)").due("undo()", 0).due("reader(0, 0)", 0).due("reader(0, 2)", 1)
                .due("letter(0, 2)", 0).due("read(0, 0)", 9).due("letter(0, 2)", 0);
        Run.says("each can be undone: what it COST then, not what it COSTS now");
        Run.of("o99;p9,1;r0,99;").then("read(0, 0) cross(0, 8)").due("undo()", 1).due("undo()", 0).due("reader(0, 0)", 0);
        Run.says("each can be undone: one READS ALOUD");
        Run.of("o99;p11,1;f1,1;r0,99;r0,99;r0,2;").then("aloud(0, 2, 0) aloud(0, 6, 0)").due("reader(2, 5)", 1).due("undo()", 1)
                .due("reader(1, 0)", 2).due("reader(2, 0)", 0).due("reader(2, 5)", 0).due("reader(1, 5)", 1).due("reader(0, 0)", 11)
                .due("undo()", 0).due("reader(1, 0)", 0).due("reader(1, 5)", 0).due("reader(0, 0)", 0).due("letter(0, 2)", 0);
        Run.says("each can be undone: all who HEARD it then have not, all who HEARD it before have");
        Run y = Run.of("o99;p11,1;f1,1;r0,99;r0,99;r0,99;r0,99;").then("aloud(3, 2, 0) aloud(3, 7, 0)").due("undo()", 1);
        y.due(0, "reader(0, 5)", "reader(2, 5)", "reader(0, 0)", "reader(2, 0)").due("reader(1, 5)", 1).due("reader(1, 0)", 2);
        y.due("undo()", 0).due(0, "reader(1, 5)", "reader(1, 0)", "reader(3, 0)").then("aloud(3, 7, 1) aloud(3, 7, 1) undo()");
        y.due(2, "reader(0, 5)", "reader(1, 5)", "reader(2, 5)").due("undo()", 0).due(0, "reader(0, 5)", "reader(1, 5)", "reader(2, 5)");
        Run z = Run.of("o99;f1,1;r0,99;r0,99;").then("aloud(0, 2, 0) aloud(1, 1, 0) aloud(1, 1, 0) undo()").due("reader(0, 5)", 1)
                .due("reader(1, 5)", 1);
        z.due("undo()", 1).due("reader(0, 5)", 0).due("reader(1, 5)", 1);
        Run.says("each can be undone: one READS ALOUD, at which the reader and who hears die");
        Run.of("o99;p11,1;r0,11;r0,2;").then("aloud(0, 2, 0)").due("count(4)", 0).due("undo()", 0).due("count(4)", 2)
                .due("reader(0, 0)", 0).due("reader(1, 0)", 0).due("reader(1, 5)", 0).due("letter(0, 2)", 0);
        Run.says("each can be undone: a DAY, of the dead, too");
        Run.of("o99;r0,1;").then("day() day()").due("reader(0, 0)", 2).due("undo()", 1).due("reader(0, 0)", 1)
                .due("reader(0, 2)", 0).due("undo()", 0).due("reader(0, 2)", 1).due("count(3)", 0);
        Run.says("undo: STATE: none");
        Run.fresh().due("undo()", STATE);
        Run.of(TWO).due("undo()", STATE).then("day()").due("undo()", 0).due("undo()", STATE).due("count(3)", 0);
    }

    private static void actsThatChangeNothing() {
        Run.says("also such by which nothing becomes another");
        Run x = Run.of("o99;f1,1;p1,1;r0,99;r0,99;").then("aloud(0, 2, 0)").due("count(7)", 1);
        x.then("aloud(0, 2, 0)").due("count(7)", 2).due("letter(0, 2)", 2).due("undo()", 1).due("reader(1, 5)", 1)
                .due("letter(0, 2)", 1);
        Run.of("o9;").then("day() day()").due("count(7)", 2).due("undo()", 1).due("undo()", 0).due("count(3)", 0);
    }

    private static void whatIsNoAct() {
        Run.says("ACTS: one READS; one READS ALOUD; PAGES are CROSSED OUT; a DAY; no other call");
        Run x = Run.of("o60;p12,5;r20,50;r61,70;").then("row(0, 2, 6) set(0, 0, 1) copy(0, 0, 0, 1, 1) drop(0) feed(1) office() fault()")
                .then("reader(0, 0) letter(0, 0) costs(0, 0) best(0) allRead(-1) bestAloud(0, 0) kills(0) post(0, 0) crossOut(0, 0)")
                .then("dies(0) late(0) soOld(0, 0, 0) ages(0, 0, 0, 1) burnt(0, 0, 0) image(0) kind(0) as(0, 0) ask(0, 0) trace(0)")
                .then("count(0) status()");
        x.due("count(7)", 0).due("undo()", STATE);
        Run.says("what is refused is no ACT");
        x.due("read(1, 0)", STATE).due("read(2, 0)", BAD).due("aloud(0, 1, 0)", BAD).due("aloud(1, 0, 0)", STATE)
                .due("cross(0, 12)", STATE).due("cross(0, 40)", BAD).due("count(7)", 0).due("undo()", STATE);
    }

    private static void readersTold() {
        Run.says("reader: 0 AGE .. 5 HEARD; BAD");
        Run x = Run.of(TWO).then("aloud(0, 2, 0) read(0, 1)");
        x.due("reader(0, 0)", 32).due("reader(0, 1)", 50).due("reader(0, 2)", 1).due("reader(0, 3)", 1).due("reader(0, 4)", 3)
                .due("reader(0, 5)", 0).due("reader(1, 5)", 1);
        x.due(BAD, "reader(0, -1)", "reader(0, 6)", "reader(0, HIGH)", "reader(0, LOW)");
        x.due(BAD, "reader(-1, 0)", "reader(2, 0)", "reader(HIGH, 0)", "reader(LOW, 0)", "reader(4, 0)", "reader(2, 9)");
        Run.says("LETTERS that it has READ (bits), HEARD (bits): none, all six");
        Run y = Run.of("o9;f1,1;f1,1;f1,1;f1,1;f1,1;f1,1;r0,1;r0,1;").due(0, "reader(0, 4)", "reader(1, 5)");
        for (int l = 5; l >= 0; l--) y.then("aloud(0, 2, " + l + ")").due("reader(0, 4)", 64 - (1 << l)).due("reader(1, 5)", 64 - (1 << l));
        y.due("reader(0, 5)", 0).due("reader(1, 4)", 0).due("count(6)", 0);
        Run.says("LETTERS that it has READ: not what the next reader has");
        Run z = Run.of("o9;f1,1;f1,1;f1,1;f1,1;f1,1;f1,1;r0,1;r0,1;r0,1;r0,1;").then("read(1, 0) read(3, 5)");
        z.due(0, "reader(0, 4)", "reader(2, 4)").due("reader(1, 4)", 1).due("reader(3, 4)", 32);
    }

    private static void lettersTold() {
        Run.says("letter: 0 PAGES .. 3 READERS who have READ it; BAD");
        Run x = Run.of(TWO).then("aloud(0, 2, 0) read(0, 1)");
        x.due("letter(0, 0)", 12).due("letter(0, 1)", 5).due("letter(0, 2)", 1).due("letter(0, 3)", 1);
        x.due(BAD, "letter(0, -1)", "letter(0, 4)", "letter(0, HIGH)", "letter(0, LOW)");
        x.due(BAD, "letter(-1, 0)", "letter(2, 0)", "letter(HIGH, 0)", "letter(LOW, 0)", "letter(6, 0)", "letter(2, 9)");
        Run.says("how often it was READ by all; READERS who have READ it (bits): none, all four");
        Run y = Run.of("o9;f1,1;f1,1;r0,1;r0,1;r0,1;r0,1;").due(0, "letter(0, 2)", "letter(0, 3)").then("read(3, 0) read(3, 0)")
                .due("letter(0, 2)", 2).due("letter(0, 3)", 8).then("read(0, 0) read(1, 0) read(2, 0)").due("letter(0, 2)", 5)
                .due("letter(0, 3)", 15).due(0, "letter(1, 2)", "letter(1, 3)");
        for (int i = 6; i <= 300; i++) y.call("read(0, 0)");
        y.due("letter(0, 2)", 300).due("letter(0, 3)", 15);
    }

    private static void imagesKept() {
        Run.says("An IMAGE (0, 1) is kept of the OFFICE");
        Run.of(TWO).due("image(0)", 1).due("image(1)", 1).due(BAD, "image(-1)", "image(2)", "image(HIGH)", "image(LOW)");
        Run.says("image: STATE: no OFFICE; BAD ahead of it");
        Run.fresh().due(STATE, "image(0)", "image(1)").due(BAD, "image(2)", "image(-1)").due(STATE, "restore(0)", "restore(1)");
        Run.says("restore: STATE: none was kept; BAD ahead of it");
        Run.of(TWO).due(STATE, "restore(0)", "restore(1)").due(BAD, "restore(2)", "restore(-1)", "restore(HIGH)", "restore(LOW)")
                .then("image(1)").due("restore(0)", STATE).due("restore(1)", 1);
        Run.of(TWO).then("image(0)").due("restore(1)", STATE).due("restore(0)", 1);
        Run.says("what is refused leaves all");
        Run.of(TWO).then("day() restore(1) restore(2) image(2)").due("count(7)", 1).due("count(3)", 1);
        Run.says("each IMAGE by itself, the latest of each");
        Run.of(TWO).then("image(0) day() image(1) day()").due("restore(0)", 1).due("count(3)", 0).due("restore(1)", 1)
                .due("count(3)", 1).then("day() image(0) restore(1)").due("count(3)", 1).due("restore(0)", 1).due("count(3)", 2);
    }

    private static void imagesRestored() {
        Run.says("The OFFICE is as an IMAGE kept it");
        Run x = Run.of("o60;p12,5;f9,2;r20,50;r30,70;").then("aloud(0, 2, 0) cross(0, 3) day() image(0)")
                .then("read(1, 0) aloud(1, 1, 1) cross(0, 8) day()").feedAll("o1;s1,1;s1,1;s1,1;r1,2;r1,2;r1,2;").due("office()", 3);
        x.due("restore(0)", 1).due("count(1)", 2).due("count(2)", 2).due("count(3)", 1).due("reader(0, 0)", 33)
                .due("reader(1, 0)", 33).due("reader(0, 4)", 1).due("reader(1, 4)", 0).due("reader(1, 5)", 1).due("reader(0, 5)", 0)
                .due("letter(0, 0)", 9).due("letter(0, 1)", 5).due("letter(0, 2)", 1).due("kind(1)", 4).due("reader(1, 3)", 1)
                .due("reader(1, 1)", 70).due("costs(0, 0)", 5).due("soOld(0, 21, 0)", 2);
        Run.says("no ACT can be undone then");
        x.due("count(7)", 0).due("undo()", STATE).then("day()").due("undo()", 0).due("undo()", STATE);
        Run.of(TWO).then("day() image(0)").due("count(7)", 1).due("restore(0)", 1).due("count(7)", 0).due("undo()", STATE);
        Run.says("an IMAGE stays as it was kept, whatever is done then");
        x.then("read(1, 0) cross(0, 8) day() restore(0)").due("letter(0, 0)", 9).due("reader(1, 0)", 33).due("count(3)", 1)
                .due("letter(0, 2)", 1);
        Run.says("the tape, ROWS, the latest FAULT stay");
        Run.of(TWO).then("image(0) office() row(0, 2, 4) feed(111)").due("restore(0)", 1).due("count(8)", 1).due("fault()", 1)
                .due("drop(0)", 4).due("feed(111)", 2);
    }

    private static void counts() {
        Run.says("count: How many: all of them full");
        Run x = Run.of("o50;f1,1;f1,1;f1,1;f1,1;f1,1;f1,1;r1,2;r1,2;r1,2;r1,2;");
        for (int r = 0; r < 8; r++) x.call("row(" + r + ", 0, 0)");
        for (int i = 0; i < 24; i++) x.call("read(0, 0)");
        for (int i = 0; i < 120; i++) x.call("feed(0)");
        int[] full = {8, 6, 4, 0, 4, 4, 5, 24, 120};
        for (int what = 0; what <= 8; what++) x.due("count(" + what + ")", full[what]);
        Run.says("count: How many: none of them");
        Run y = Run.of("o50;");
        for (int what = 0; what <= 8; what++) y.due("count(" + what + ")", 0);
        Run.says("count: BAD");
        x.due(BAD, "count(-1)", "count(9)", "count(HIGH)", "count(LOW)");
        Run.fresh().due(BAD, "count(-1)", "count(9)").due("count(0)", 0).due("count(8)", 0);
        Run.says("count: LETTERS that nobody has READ, whenever they are DUE");
        Run.of("o50;p1,1;p1,98;p1,99;r0,9;").due("count(6)", 3).then("read(0, 2)").due("count(6)", 2);
        Run.says("count: LETTERS that nobody has READ");
        Run.of("o50;p9,1;f1,1;r1,10;r1,99;").due("count(6)", 2).then("read(0, 0)").due("count(6)", 2).then("read(1, 0)")
                .due("count(6)", 1).then("read(1, 1) read(1, 1)").due("count(6)", 0).then("undo()").due("count(6)", 0)
                .then("undo()").due("count(6)", 1);
    }
}
