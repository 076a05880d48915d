/** The edges of what is FORETOLD: promises 17 to 27. */
public final class ForetoldBoundaries {
    private static final int NONE = Run.NONE, BAD = Run.BAD, STATE = Run.STATE, NULL = Run.NULL, PLACE = Run.PLACE;

    public static void main(String[] args) {
        bestOfWhom();
        bestOfSeveral();
        allReadNothing();
        allReadByWhom();
        allReadFirstRow();
        allReadNumbers();
        aloudByWhom();
        aloudSpent();
        kills();
        killsOfSeveral();
        postFewest();
        postOfSeveral();
        crossOutFewest();
        crossOutNumbers();
        dies();
        lateDays();
        lateWhat();
        soOldSets();
        soOldDays();
        soOldNumbers();
        agesTold();
        agesRows();
        agesPlaces();
        agesRefused();
        burntFractions();
        burntWhat();
        nothingChanges();
        Run.end();
    }

    private static void bestOfWhom() {
        Run.says("BEST: of all who are FIT: AGE below RETIRES");
        Run.of("o20;p1,1;r19,99;").due("best(0)", 0);
        Run.of("o20;p1,1;r20,99;").due("best(0)", NONE);
        Run.of("o20;p9,1;r19,99;").due("best(0)", 0);
        Run.says("BEST: and would be ALIVE behind it");
        Run.of("o20;p5,1;r10,16;").due("best(0)", 0);
        Run.of("o20;p5,1;r10,15;").due("best(0)", NONE);
        Run.of("o20;f5,1;r10,11;").due("best(0)", 0).then("day()").due("best(0)", NONE);
        Run.says("BEST: NONE: no reader, none that can");
        Run.of("o20;p5,1;").due("best(0)", NONE);
        Run.of("o20;p5,1;r10,15;r20,99;r15,16;r14,19;").due("best(0)", NONE);
        Run.says("BEST: BAD");
        Run.of("o20;p5,1;r10,99;").due(BAD, "best(-1)", "best(1)", "best(HIGH)", "best(LOW)");
        Run.of("o20;r10,99;").due("best(0)", BAD);
    }

    private static void bestOfSeveral() {
        Run.says("BEST: the one who has most DAYS to SPAN then");
        Run.of("o60;p5,1;r10,30;r10,31;r30,50;").due("best(0)", 1);
        Run.of("o60;p5,1;r10,31;r10,30;").due("best(0)", 0);
        Run.of("o60;p5,1;r10,30;r1,10;r50,90;r0,5;").due("best(0)", 2);
        Run.says("BEST: then: behind what it COSTS that one");
        Run.of("o60;p10,1;r10,60;r0,44;").due("best(0)", 0).then("read(1, 0)").due("best(0)", 0).then("undo()")
                .then("read(0, 0)").due("best(0)", 0);
        Run.of("o60;p10,1;r10,60;r10,66;").then("read(1, 0)").due("best(0)", 1);
        Run.of("o60;p10,1;r10,60;r10,65;").then("read(1, 0)").due("best(0)", 0);
        Run.says("BEST: of several the first");
        Run.of("o60;p5,1;r10,30;r20,40;r0,20;r30,50;").due("best(0)", 0);
        Run.of("o60;p5,1;r60,99;r20,40;r0,20;r30,50;").due("best(0)", 1);
        Run.of("o60;p5,1;r1,3;r20,30;r0,20;r30,50;").due("best(0)", 2);
    }

    private static void allReadNothing() {
        Run.says("ALL READ: no LETTERS: nothing is spent");
        Run.of("o9;").due("allRead(-1)", 0).due("allRead(0)", BAD);
        Run.of("o9;r9,10;").due("allRead(-1)", 0);
        Run.says("ALL READ: all of them were READ");
        Run x = Run.of("o9;p1,1;f1,1;r0,3;r1,9;").then("read(0, 0) read(1, 1)").due("allRead(-1)", 0)
                .due(NONE, "allRead(0)", "allRead(1)");
        Run.says("ALL READ: all of them were READ, and nobody is ALIVE");
        x.then("day() day() day() day() day() day() day() day() day()").due("count(4)", 0).due("allRead(-1)", 0)
                .due(NONE, "allRead(0)", "allRead(1)");
        Run.says("ALL READ: NONE: nobody to READ");
        Run.of("o9;f1,1;").due(NONE, "allRead(-1)", "allRead(0)");
        Run.of("o9;f1,1;r9,99;").due(NONE, "allRead(-1)", "allRead(0)");
    }

    private static void allReadByWhom() {
        Run.says("ALL READ: so that all who READ are FIT now");
        Run.of("o9;p1,1;r8,99;").due("allRead(-1)", 1).due("allRead(0)", 0).then("day()").due(NONE, "allRead(-1)", "allRead(0)");
        Run.of("o9;p1,1;f1,1;r9,99;r8,99;").due("allRead(-1)", 1).due(1, "allRead(0)", "allRead(1)");
        Run.says("ALL READ: (that is not asked again between)");
        Run.of("o9;p40,1;p40,1;r8,99;").due("allRead(-1)", 80).due(0, "allRead(0)", "allRead(1)");
        Run.says("ALL READ: and ALIVE at last");
        Run.of("o9;p5,1;v5,1;r0,21;").due("allRead(-1)", 20).due(0, "allRead(0)", "allRead(1)");
        Run.of("o9;p5,1;v5,1;r0,20;").due(NONE, "allRead(-1)", "allRead(0)", "allRead(1)");
        Run.of("o9;p5,1;v5,1;r0,20;r0,5;").due(NONE, "allRead(-1)", "allRead(0)");
        Run.of("o9;p5,1;v5,1;r0,20;r0,6;").due("allRead(-1)", 20).due("allRead(0)", 1).due("allRead(1)", 0);
        Run.says("ALL READ: LETTERS that nobody has READ");
        Run.of("o9;p5,1;p4,1;r0,6;r0,20;").then("read(1, 0)").due("allRead(-1)", 4).due("allRead(0)", NONE).due("allRead(1)", 0);
        Run.of("o9;p5,1;p4,1;r0,5;r0,20;").then("read(0, 0)").due("allRead(-1)", 9).due(1, "allRead(0)", "allRead(1)");
        Run.says("ALL READ: whenever they are DUE");
        Run.of("o9;p5,98;p4,99;r0,20;").due("allRead(-1)", 9).due(0, "allRead(0)", "allRead(1)");
        Run.says("ALL READ: one that the dead have READ was READ");
        Run.of("o9;f5,1;p4,1;r0,1;r0,20;").then("read(0, 0) day()").due("allRead(-1)", 4).due("allRead(0)", NONE)
                .due("allRead(1)", 1);
    }

    private static void allReadFirstRow() {
        Run.says("ALL READ: of several the first row (by LETTERS; who READS each)");
        Run x = Run.of("o9;p5,1;p5,1;p5,1;r0,6;r0,6;r0,6;r0,6;").due("allRead(-1)", 15);
        checkRow(x, 0, 1, 2);
        Run y = Run.of("o9;p3,1;p2,1;p2,1;r0,5;r0,4;").due("allRead(-1)", 7);
        checkRow(y, 1, 0, 0);
        Run.says("ALL READ: the first row that goes, however late it comes");
        Run z = Run.of("o9;p1,1;p2,1;p3,1;p4,1;p5,1;p6,1;r9,99;r1,2;r2,3;r0,22;").due("allRead(-1)", 21);
        checkRow(z, 3, 3, 3, 3, 3, 3);
        Run w = Run.of("o9;p1,1;p2,1;p3,1;p4,1;p5,1;p6,1;r0,7;r0,7;r0,6;r0,5;").due("allRead(-1)", 21);
        checkRow(w, 0, 0, 0, 3, 2, 1);
        Run u = Run.of("o9;p1,1;p2,1;p3,1;p4,1;p5,1;p6,1;r0,6;r0,6;r0,7;r0,6;").due("allRead(-1)", 21);
        checkRow(u, 0, 1, 1, 0, 3, 2);
        Run v = Run.of("o9;p1,1;p2,1;p3,1;p4,1;p5,1;p6,1;r0,7;r0,7;r0,6;r0,4;").due("allRead(-1)", NONE);
        checkRow(v, NONE, NONE, NONE, NONE, NONE, NONE);
    }

    private static void checkRow(Run x, int... who) {
        for (int l = 0; l < who.length; l++) x.due("allRead(" + l + ")", who[l]);
    }

    private static void allReadNumbers() {
        Run.says("allRead: BAD");
        Run.of("o9;f1,1;f1,1;r0,9;").due("allRead(1)", 0).due(BAD, "allRead(-2)", "allRead(2)", "allRead(HIGH)", "allRead(LOW)");
        Run.says("allRead: BAD, though it would be NONE");
        Run.of("o9;f1,1;").due(BAD, "allRead(1)", "allRead(-2)");
        Run.says("allRead: STATE: no OFFICE (ahead of BAD)");
        Run.fresh().due(STATE, "allRead(-1)", "allRead(0)", "allRead(-2)", "allRead(6)", "allRead(HIGH)", "allRead(LOW)");
    }

    private static void aloudByWhom() {
        Run.says("ALOUD: FIT");
        Run.of("o20;p1,1;r20,99;r19,99;").due("bestAloud(0, 0)", 1).then("day()").due(NONE, "bestAloud(0, 0)", "bestAloud(0, 1)");
        Run.says("ALOUD: ALIVE behind it");
        Run.of("o20;p5,1;r10,15;r10,16;").due("bestAloud(0, 0)", 1);
        Run.of("o20;p5,1;r10,15;r9,14;").due(NONE, "bestAloud(0, 0)", "bestAloud(0, 1)");
        Run.says("ALOUD: NONE");
        Run.of("o20;p5,1;").due(NONE, "bestAloud(0, 0)", "bestAloud(0, 1)");
        Run.says("ALOUD: BAD");
        Run.of("o20;p5,1;r10,99;").due(BAD, "bestAloud(-1, 0)", "bestAloud(1, 0)", "bestAloud(HIGH, 0)", "bestAloud(LOW, 0)")
                .due(BAD, "bestAloud(0, -1)", "bestAloud(0, 2)", "bestAloud(0, HIGH)", "bestAloud(0, LOW)");
        Run.of("o20;p5,1;").due(BAD, "bestAloud(0, 2)", "bestAloud(1, 0)");
    }

    private static void aloudSpent() {
        Run.says("ALOUD: to all others who are ALIVE: to none");
        Run.of("o20;p11,1;r10,99;").due("bestAloud(0, 0)", 0).due("bestAloud(0, 1)", 11);
        Run.of("o20;p11,1;r10,99;r1,2;").due("bestAloud(0, 1)", 13).then("day()").due("bestAloud(0, 1)", 11);
        Run.says("ALOUD: to retired ones, to ones who die at it, too");
        Run.of("o20;p11,1;r10,99;r20,99;r1,2;r1,2;").due("bestAloud(0, 0)", 0).due("bestAloud(0, 1)", 11 + 3 * 2);
        Run.says("ALOUD: spent by all together: tenths (cut up)");
        int[] pages = {1, 10, 11, 40}, spent = {4, 13, 17, 52};
        for (int i = 0; i < 4; i++) {
            Run.of("o20;p" + pages[i] + ",1;r0,99;r0,99;r0,99;r0,99;").due("bestAloud(0, 1)", spent[i]).due("bestAloud(0, 0)", 0);
        }
        Run.of("o20;f40,1;r0,99;r0,99;").due("bestAloud(0, 1)", 0).due("bestAloud(0, 0)", 0);
        Run.says("ALOUD: least spent by all together");
        Run.of("o99;p20,1;r0,99;r0,99;r0,99;").due("bestAloud(0, 0)", 0).then("read(2, 0)").due("bestAloud(0, 0)", 2)
                .due("bestAloud(0, 1)", 10 + 2 * 1).then("read(1, 0)").due("bestAloud(0, 0)", 1).then("read(0, 0)")
                .due("bestAloud(0, 0)", 0);
        Run.says("ALOUD: of several the first");
        Run.of("o20;p5,1;r20,99;r1,6;r1,7;r1,99;").due("bestAloud(0, 0)", 2);
    }

    private static void kills() {
        Run.says("KILLS: that it would not survive");
        Run.of("o9;p5,1;r5,10;").due("kills(0)", 0);
        Run.of("o9;p5,1;r5,11;").due("kills(0)", NONE).then("day()").due("kills(0)", 0);
        Run.of("o9;p1,1;r5,6;").due("kills(0)", 0);
        Run.of("o9;f40,1;r5,6;").due("kills(0)", NONE);
        Run.says("KILLS: (FIT or not)");
        Run.of("o9;p5,1;r9,14;").due("kills(0)", 0);
        Run.says("KILLS: by what it COSTS that one now");
        Run.of("o9;p5,1;r0,8;").then("read(0, 0)").due("kills(0)", 0);
        Run.of("o9;p5,1;r0,9;").then("read(0, 0)").due("kills(0)", NONE);
        Run.says("KILLS: NONE: no LETTERS");
        Run.of("o9;r5,6;").due("kills(0)", NONE);
        Run.says("KILLS: BAD");
        Run.of("o9;p5,1;r5,6;").due(BAD, "kills(-1)", "kills(1)", "kills(HIGH)", "kills(LOW)");
        Run.says("KILLS: STATE: it is not ALIVE");
        Run.of("o9;p5,1;r5,6;r5,7;").then("day()").due("kills(0)", STATE).due("kills(1)", 0).then("day()").due("kills(1)", STATE)
                .due("kills(2)", BAD);
    }

    private static void killsOfSeveral() {
        Run.says("KILLS: the LETTER with fewest PAGES, not the one that COSTS least");
        Run.of("o9;p20,1;v19,1;p21,1;r0,20;").due("kills(0)", 1);
        Run.of("o9;l40,1;v39,1;p21,1;r0,20;").due("kills(0)", 2);
        Run.of("o9;p19,1;p40,1;p39,1;v40,1;v7,1;r0,20;").due("kills(0)", 4);
        Run.says("KILLS: of several the first");
        Run.of("o9;p21,1;p20,1;v20,1;p20,1;r0,20;").due("kills(0)", 1);
        Run.of("o9;v9,1;v9,1;r0,20;").due("kills(0)", 0);
        Run.says("KILLS: the last one");
        Run.of("o9;f1,1;f1,1;f1,1;f1,1;s40,1;p40,1;r0,40;").due("kills(0)", 5);
    }

    private static void postFewest() {
        Run.says("POST: each READ once, one would not survive");
        Run.of("o9;p5,1;p4,1;r0,9;").due("post(0, 0)", 2).due("post(0, 1)", 3);
        Run.of("o9;p5,1;p4,1;r0,10;").due(NONE, "post(0, 0)", "post(0, 1)").then("day()").due("post(0, 1)", 3);
        Run.says("POST: one, all six");
        Run.of("o9;f1,1;f1,1;f1,1;f1,1;f1,1;p1,1;r0,1;").due("post(0, 0)", 1).due("post(0, 1)", 32);
        Run.of("o9;p1,1;p1,1;p1,1;p1,1;p1,1;p1,1;r0,6;").due("post(0, 0)", 6).due("post(0, 1)", 63);
        Run.of("o9;v40,1;v40,1;v40,1;v40,1;v40,1;v40,1;r0,720;").due("post(0, 0)", 6).due("post(0, 1)", 63);
        Run.of("o9;v40,1;v40,1;v40,1;v40,1;v40,1;v40,1;r0,721;").due(NONE, "post(0, 0)", "post(0, 1)");
        Run.says("POST: NONE: no LETTERS, none that COST");
        Run.of("o9;r0,1;").due(NONE, "post(0, 0)", "post(0, 1)");
        Run.of("o9;f40,1;f40,1;r0,1;").due(NONE, "post(0, 0)", "post(0, 1)");
        Run.says("POST: (for what it COSTS now)");
        Run.of("o9;p5,1;p4,1;r0,12;").then("read(0, 0)").due("post(0, 1)", 3).then("day() day() day()").due("post(0, 1)", 2);
        Run.says("POST: of one who is not FIT");
        Run.of("o9;p5,1;r9,14;").due("post(0, 1)", 1);
    }

    private static void postOfSeveral() {
        Run.says("POST: the fewest LETTERS");
        Run.of("o9;p4,1;p5,1;p6,1;p9,1;r0,9;").due("post(0, 0)", 1).due("post(0, 1)", 8);
        Run.of("o9;p3,1;p3,1;p3,1;p5,1;p4,1;r0,9;").due("post(0, 0)", 2).due("post(0, 1)", 24);
        Run.says("POST: of several the least");
        Run.of("o9;p4,1;p5,1;p5,1;p4,1;r0,9;").due("post(0, 1)", 3);
        Run.of("o9;p1,1;p8,1;p8,1;p1,1;r0,10;").due("post(0, 1)", 6);
        Run.of("o9;f1,1;p9,1;p9,1;p40,1;r0,9;").due("post(0, 1)", 2);
        Run.says("POST: BAD");
        Run x = Run.of("o9;p5,1;r0,5;r0,1;").due(BAD, "post(-1, 0)", "post(2, 0)", "post(HIGH, 0)", "post(LOW, 0)")
                .due(BAD, "post(0, -1)", "post(0, 2)", "post(0, HIGH)", "post(0, LOW)");
        Run.says("POST: STATE: it is not ALIVE; BAD ahead of it");
        x.then("day()").due(STATE, "post(1, 0)", "post(1, 1)").due(BAD, "post(1, 2)", "post(1, -1)").due("post(0, 0)", 1);
    }

    private static void crossOutFewest() {
        Run.says("CROSS OUT: the fewest PAGES of a LETTER so that one survives it: none of them");
        Run.of("o9;p5,1;r0,6;").due("crossOut(0, 0)", 0);
        Run.of("o9;p1,1;r0,2;").due("crossOut(0, 0)", 0);
        Run.of("o9;f40,1;r0,1;").due("crossOut(0, 0)", 0);
        Run.says("CROSS OUT: one of them, all but one");
        Run.of("o9;p5,1;r0,5;").due("crossOut(0, 0)", 1);
        Run.of("o9;p40,1;r0,2;").due("crossOut(0, 0)", 39);
        Run.of("o9;v40,1;r0,4;").due("crossOut(0, 0)", 39);
        Run.says("CROSS OUT: NONE: by none (1 at least stays)");
        Run.of("o9;p40,1;p1,1;l2,1;s40,1;f9,1;r0,1;").due(NONE, "crossOut(0, 0)", "crossOut(0, 1)", "crossOut(0, 2)", "crossOut(0, 3)")
                .due("crossOut(0, 4)", 0);
        Run.of("o9;v40,1;r0,3;").due("crossOut(0, 0)", NONE);
        Run.says("CROSS OUT: by what it COSTS that one then (cut up)");
        Run.of("o9;l10,1;r0,3;").due("crossOut(0, 0)", 6);
        Run.of("o9;s40,1;r0,4;").due("crossOut(0, 0)", 10);
        Run.of("o9;s31,1;r0,4;").due("crossOut(0, 0)", 1);
        Run.of("o9;v10,1;r0,10;").due("crossOut(0, 0)", 7);
        Run.of("o9;p10,1;r0,14;").then("read(0, 0)").due("crossOut(0, 0)", 4).then("day()").due("crossOut(0, 0)", 6)
                .then("day()").due("crossOut(0, 0)", 8).then("day()").due("crossOut(0, 0)", NONE);
        Run.says("CROSS OUT: so many and no fewer let it live");
        Run.of("o9;v10,1;r0,10;").then("cross(0, 7)").due("read(0, 0)", 9).due("reader(0, 2)", 1).then("undo() undo() cross(0, 6)")
                .due("read(0, 0)", 12).due("reader(0, 2)", 0);
    }

    private static void crossOutNumbers() {
        Run.says("CROSS OUT: of one who is not FIT");
        Run.of("o9;p5,1;r9,13;").due("crossOut(0, 0)", 2);
        Run.says("CROSS OUT: BAD");
        Run x = Run.of("o9;p5,1;r0,5;r0,1;").due(BAD, "crossOut(-1, 0)", "crossOut(2, 0)", "crossOut(HIGH, 0)", "crossOut(LOW, 0)")
                .due(BAD, "crossOut(0, -1)", "crossOut(0, 1)", "crossOut(0, HIGH)", "crossOut(0, LOW)");
        Run.says("CROSS OUT: STATE: it is not ALIVE; BAD ahead of it");
        x.then("day()").due("crossOut(1, 0)", STATE).due(BAD, "crossOut(1, 1)", "crossOut(1, -1)").due("crossOut(0, 0)", 2);
    }

    private static void dies() {
        Run.says("DIES: the DAY on which one is no longer ALIVE, if nothing is read");
        Run x = Run.of("o1;f1,1;r0,1;r0,2;r5,9;r99,999;").due("dies(0)", 1).due("dies(1)", 2).due("dies(2)", 4).due("dies(3)", 900);
        x.then("day()").due("dies(0)", NONE).due("dies(1)", 2).due("reader(1, 2)", 1).then("day()").due("dies(1)", NONE)
                .due("dies(2)", 4).then("undo()").due("dies(1)", 2);
        Run.says("DIES: sooner behind what was READ");
        Run.of("o9;p3,1;r0,9;").then("day() read(0, 0)").due("dies(0)", 6).then("read(0, 0)").due("dies(0)", 4)
                .then("read(0, 0) read(0, 0)").due("dies(0)", NONE);
        Run.says("DIES: BAD");
        Run.of("o9;r0,9;").due(BAD, "dies(-1)", "dies(1)", "dies(4)", "dies(HIGH)", "dies(LOW)");
    }

    private static void lateDays() {
        Run.says("LATE in d DAYS (0 to 99): DUE ahead of that DAY");
        Run x = Run.of("o9;p1,1;p1,2;p1,98;p1,99;").due(0, "late(0)", "late(1)").due("late(2)", 1).due("late(3)", 3)
                .due("late(98)", 3).due("late(99)", 7);
        x.then("day()").due("late(0)", 0).due("late(1)", 1).due("late(2)", 3).due("late(97)", 3).due("late(98)", 7).due("late(99)", 15);
        x.then("day()").due("late(0)", 1);
        Run.says("LATE: BAD");
        x.due(BAD, "late(-1)", "late(100)", "late(HIGH)", "late(LOW)");
        Run.says("LATE: STATE: no OFFICE (ahead of BAD)");
        Run.fresh().due(STATE, "late(0)", "late(99)", "late(-1)", "late(100)", "late(HIGH)", "late(LOW)");
    }

    private static void lateWhat() {
        Run.says("LATE: LETTERS (bits) that nobody has READ: none, all six");
        Run.of("o9;").due(0, "late(0)", "late(99)");
        Run x = Run.of("o9;f1,1;f1,1;f1,1;f1,1;f1,1;f1,1;r0,9;").due("late(99)", 63).due("late(2)", 63).due("late(1)", 0);
        for (int l = 0; l < 6; l++) x.then("read(0, " + l + ")").due("late(99)", 64 - (2 << l));
        x.due("late(0)", 0).then("undo()").due("late(99)", 32);
        Run.says("LATE: one at which its reader died nobody has READ; one that was HEARD neither");
        Run.of("o9;p5,1;f1,1;r0,5;r0,9;").then("read(0, 0)").due("late(99)", 3).then("aloud(1, 0, 1)").due("late(99)", 1);
        Run.says("LATE: behind many DAYS");
        Run y = Run.of("o9;p1,99;");
        for (int d = 0; d < 100; d++) y.call("day()");
        y.due("late(0)", 1).then("undo()").due("late(0)", 0).due("late(1)", 1);
    }

    private static void soOldSets() {
        Run.says("SO OLD: sets of LETTERS (bits): none of them, all six");
        Run.of("o9;r7,99;").due("soOld(0, 7, 0)", 1).due("soOld(0, 7, 1)", 0).due("soOld(0, 8, 0)", 0).due("soOld(0, 8, 1)", NONE)
                .due("soOld(0, 6, 0)", 0).due("soOld(0, 6, 1)", NONE);
        Run.of("o9;f1,1;f1,1;f1,1;f1,1;f1,1;f1,1;r7,99;").due("soOld(0, 7, 0)", 64).due("soOld(0, 7, 1)", 0).due("soOld(0, 8, 1)", NONE);
        Run.of("o9;p1,1;p2,1;p4,1;p8,1;p16,1;p32,1;r7,99;").due("soOld(0, 70, 0)", 1).due("soOld(0, 70, 1)", 63)
                .due("soOld(0, 8, 1)", 1).due("soOld(0, 39, 1)", 32).due("soOld(0, 71, 0)", 0).due("soOld(0, 71, 1)", NONE);
        Run.says("SO OLD: how many; the least");
        Run.of("o9;p1,1;p1,1;p2,1;r0,99;").due("soOld(0, 2, 0)", 2).due("soOld(0, 2, 1)", 3).due("soOld(0, 1, 0)", 2)
                .due("soOld(0, 1, 1)", 1).due("soOld(0, 3, 0)", 2).due("soOld(0, 3, 1)", 5).due("soOld(0, 4, 1)", 7);
    }

    private static void soOldDays() {
        Run.says("SO OLD: one who was as old as told at first, today");
        Run.of("o9;p1,1;p5,1;r3,99;").then("day()").due("soOld(0, 3, 0)", 0).due("soOld(0, 4, 1)", 0).due("soOld(0, 5, 1)", 1)
                .due("soOld(0, 10, 1)", 3).then("day()").due("soOld(0, 5, 1)", 0).due("soOld(0, 4, 0)", 0);
        Run.says("SO OLD: each READ once (by one who never READ it before)");
        Run.of("o9;p5,1;r3,99;").then("read(0, 0) read(0, 0)").due("soOld(0, 8, 0)", 1).due("soOld(0, 11, 0)", 0)
                .due("soOld(0, 6, 0)", 0).due("soOld(0, 3, 1)", 0);
        Run.says("SO OLD: by PAGES as they are now, of the dead, too");
        Run.of("o9;p5,1;r3,4;").then("cross(0, 2)").due("soOld(0, 6, 1)", 1).due("soOld(0, 8, 0)", 0).then("day()")
                .due("soOld(0, 7, 1)", 1);
    }

    private static void soOldNumbers() {
        Run.says("SO OLD: of an AGE (0 to 999)");
        Run.of("o9;p5,1;r0,99;").due("soOld(0, 0, 0)", 1).due("soOld(0, 0, 1)", 0).due("soOld(0, 999, 0)", 0)
                .due("soOld(0, 999, 1)", NONE).due(BAD, "soOld(0, -1, 0)", "soOld(0, 1000, 0)", "soOld(0, HIGH, 0)", "soOld(0, LOW, 0)");
        Run x = Run.of("o9;v40,1;v40,1;v40,1;v40,1;v40,1;v40,1;r99,100;").due("soOld(0, 819, 0)", 1).due("soOld(0, 819, 1)", 63);
        for (int d = 0; d < 180; d++) x.call("day()");
        x.due("soOld(0, 999, 0)", 1).due("soOld(0, 999, 1)", 63).then("day()").due("soOld(0, 999, 1)", NONE);
        Run.says("SO OLD: BAD");
        Run.of("o9;p5,1;r0,99;").due(BAD, "soOld(-1, 0, 0)", "soOld(1, 0, 0)", "soOld(HIGH, 0, 0)", "soOld(LOW, 0, 0)")
                .due(BAD, "soOld(0, 0, -1)", "soOld(0, 0, 2)", "soOld(0, 0, HIGH)", "soOld(0, 0, LOW)");
    }

    /** A new ROW 0 of ints that has these ITEMS. */
    private static Run told(Run x, int... items) {
        x.call("row(0, 2, " + items.length + ")");
        for (int i = 0; i < items.length; i++) x.call("set(0, " + i + ", " + items[i] + ")");
        return x;
    }

    private static void agesTold() {
        Run.says("AGES: on DAYS from DAY 0 on: AGE as told at first, a DAY older each DAY");
        told(Run.of("o9;r5,99;"), 5, 6, 7, 8, 9, 10).due(1, "ages(0, 0, 0, 1)", "ages(0, 0, 0, 2)", "ages(0, 0, 0, 6)")
                .due(0, "ages(0, 0, 1, 1)", "ages(0, 0, 1, 5)");
        Run x = Run.of("o9;r5,99;");
        told(x, 4).due("ages(0, 0, 0, 1)", 0);
        told(x, 6).due("ages(0, 0, 0, 1)", 0);
        told(x, 5, 5).due("ages(0, 0, 0, 2)", 0);
        told(x, 5, 7).due("ages(0, 0, 0, 2)", 0);
        Run.says("AGES: a LETTER being READ, ahead of its AGE being told");
        Run y = Run.of("o9;p3,1;r5,99;");
        told(y, 8, 9).due(1, "ages(0, 0, 0, 1)", "ages(0, 0, 0, 2)");
        told(y, 5, 9, 10).due(1, "ages(0, 0, 0, 2)", "ages(0, 0, 0, 3)");
        told(y, 9).due("ages(0, 0, 0, 1)", 0);
        Run.says("AGES: at most one LETTER each DAY");
        told(Run.of("o9;p3,1;p4,1;r5,99;"), 12).due("ages(0, 0, 0, 1)", 0);
        Run.says("AGES: none twice, not for half of it either");
        Run z = Run.of("o9;p3,1;r5,99;");
        told(z, 8, 12).due("ages(0, 0, 0, 2)", 0);
        told(z, 8, 11).due("ages(0, 0, 0, 2)", 0);
        told(Run.of("o9;p2,1;p2,1;r5,99;"), 7, 10, 13).due("ages(0, 0, 0, 2)", 2).due("ages(0, 0, 0, 3)", 0);
    }

    private static void agesRows() {
        Run.says("AGES: in how many ways (rows of LETTERS, or none)");
        told(Run.of("o9;f1,1;r5,99;"), 5, 6, 7, 8, 9, 10).due("ages(0, 0, 0, 1)", 2).due("ages(0, 0, 0, 2)", 3)
                .due("ages(0, 0, 0, 6)", 7);
        told(Run.of("o9;f1,1;f1,1;f1,1;f1,1;f1,1;f1,1;r5,99;"), 5, 6, 7, 8, 9, 10).due("ages(0, 0, 0, 1)", 7)
                .due("ages(0, 0, 0, 2)", 43).due("ages(0, 0, 0, 6)", 13327);
        told(Run.of("o9;p1,1;p1,1;p1,1;p1,1;p1,1;p1,1;r5,99;"), 6, 8, 10, 12, 14, 16).due("ages(0, 0, 0, 6)", 720)
                .due("ages(0, 0, 0, 5)", 720).due("ages(0, 0, 0, 1)", 6);
        told(Run.of("o9;p2,1;l4,1;s20,1;v1,1;r5,99;"), 7, 8, 11).due("ages(0, 0, 0, 1)", 3).due("ages(0, 0, 0, 3)", 6);
        Run.says("AGES: with PAGES as they are now; by one who never READ them");
        Run x = Run.of("o9;p5,1;r3,99;").then("read(0, 0) cross(0, 2) day()");
        told(x, 6).due("ages(0, 0, 0, 1)", 1);
        told(x, 8).due("ages(0, 0, 0, 1)", 0);
        told(x, 5).due("ages(0, 0, 0, 1)", 0);
        told(x, 3).due("ages(0, 0, 0, 1)", 1);
        Run.says("AGES: (whether it is FIT, ALIVE on those DAYS is not asked)");
        Run y = Run.of("o1;v40,1;v40,1;r99,100;").then("day() day()");
        told(y, 219, 340, 341).due(2, "ages(0, 0, 0, 1)", "ages(0, 0, 0, 2)", "ages(0, 0, 0, 3)");
        Run.says("AGES: what no one's AGE can be");
        Run z = Run.of("o9;p5,1;f1,1;r0,99;");
        told(z, Run.HIGH, Run.LOW, Run.LOW + 1).due(0, "ages(0, 0, 0, 1)", "ages(0, 0, 0, 3)", "ages(0, 0, 1, 2)");
        told(z, -1, 0, 1).due(0, "ages(0, 0, 0, 1)", "ages(0, 0, 0, 3)").due("ages(0, 0, 1, 2)", 3);
        told(z, 0, Run.HIGH, Run.LOW).due("ages(0, 0, 0, 1)", 2).due(0, "ages(0, 0, 0, 2)", "ages(0, 0, 0, 3)");
    }

    private static void agesPlaces() {
        Run.says("AGES: by n of them (1 to 6) of a ROW from i on");
        Run x = Run.of("o9;r5,99;").then("row(7, 0, 40) set(7, 0, 5) set(7, 39, 5) row(1, 1, 6) row(2, 2, 0)");
        for (int i = 0; i < 6; i++) x.call("set(1, " + i + ", " + (5 + i) + ")");
        x.due(1, "ages(0, 7, 0, 1)", "ages(0, 7, 39, 1)", "ages(0, 1, 0, 1)", "ages(0, 1, 0, 6)").due("ages(0, 7, 34, 6)", 0);
        Run.says("AGES: PLACE");
        x.due(PLACE, "ages(0, 7, -1, 1)", "ages(0, 7, 40, 1)", "ages(0, 7, 39, 2)", "ages(0, 7, 35, 6)", "ages(0, 1, 1, 6)");
        x.due(PLACE, "ages(0, 2, 0, 1)", "ages(0, 2, 0, 6)", "ages(0, 7, HIGH, 6)", "ages(0, 7, LOW, 1)", "ages(0, 1, 6, 1)");
        Run.says("AGES: NULL");
        x.due(NULL, "ages(0, 0, 0, 1)", "ages(0, 6, 0, 6)");
    }

    private static void agesRefused() {
        Run.says("AGES: BAD: READER, ROW, n");
        Run x = Run.of("o9;r5,99;").then("row(0, 0, 7) row(7, 0, 7)");
        x.due(BAD, "ages(-1, 0, 0, 1)", "ages(1, 0, 0, 1)", "ages(HIGH, 0, 0, 1)", "ages(LOW, 0, 0, 1)");
        x.due(BAD, "ages(0, -1, 0, 1)", "ages(0, 8, 0, 1)", "ages(0, HIGH, 0, 1)", "ages(0, LOW, 0, 1)");
        x.due(BAD, "ages(0, 0, 0, 0)", "ages(0, 0, 0, 7)", "ages(0, 0, 0, -1)", "ages(0, 0, 0, HIGH)", "ages(0, 0, 0, LOW)");
        Run.says("AGES: BAD, NULL, PLACE, the first that fits");
        x.due(BAD, "ages(1, 3, 0, 1)", "ages(0, 3, 0, 0)", "ages(0, 0, -1, 7)", "ages(0, 0, 9, 0)").due(NULL, "ages(0, 3, -1, 1)")
                .due(NULL, "ages(0, 3, 40, 6)", "ages(0, 3, HIGH, 1)");
        Run.fresh().due(BAD, "ages(0, 0, 0, 1)").then("row(0, 0, 1)").due(BAD, "ages(0, 0, 0, 1)", "ages(0, 0, 5, 1)");
    }

    private static void fraction(Run x, int reader, int c, int above, int below) {
        x.due("burnt(" + reader + ", " + c + ", 0)", above).due("burnt(" + reader + ", " + c + ", 1)", below);
    }

    private static void burntFractions() {
        Run.says("BURNT by c of 10 (c 0 to 10)");
        Run x = Run.of("o9;p9,1;r0,9;r0,10;");
        int[] above = {0, 1, 1, 3, 2, 1, 3, 7, 4, 9, 1}, below = {1, 10, 5, 10, 5, 2, 5, 10, 5, 10, 1};
        for (int c = 0; c <= 10; c++) {
            fraction(x, 0, c, above[c], below[c]);
            fraction(x, 1, c, 1, 1);
        }
        x.due(BAD, "burnt(0, -1, 0)", "burnt(0, 11, 0)", "burnt(0, HIGH, 0)", "burnt(0, LOW, 0)");
        Run.says("BURNT: (0 is 0 by 1)");
        fraction(Run.of("o9;p9,1;p9,1;p9,1;p9,1;p9,1;p9,1;r0,9;"), 0, 0, 0, 1);
        Run.says("BURNT: a fraction, in lowest terms");
        Run y = Run.of("o9;p9,1;p9,1;r0,9;r0,18;");
        fraction(y, 0, 5, 1, 4);
        fraction(y, 1, 5, 3, 4);
        fraction(y, 0, 2, 1, 25);
        fraction(y, 1, 2, 9, 25);
        Run.says("BURNT: all six of them");
        Run z = Run.of("o9;p1,1;p1,1;p1,1;p1,1;p1,1;p1,1;r0,6;r0,1;r0,7;r0,2;");
        fraction(z, 0, 3, 882351, 1000000);
        fraction(z, 1, 3, 729, 1000000);
        fraction(z, 2, 3, 1, 1);
        // None of them is left, or one: 3^6 + 6 * 7 * 3^5 of 10^6.
        fraction(z, 3, 3, 2187, 200000);
        fraction(z, 0, 9, 999999, 1000000);
        fraction(z, 1, 10, 1, 1);
    }

    private static void burntWhat() {
        Run.says("BURNT: each LETTER that nobody has READ burns: none of them");
        fraction(Run.of("o9;r0,1;"), 0, 5, 1, 1);
        fraction(Run.of("o9;r0,1;"), 0, 0, 1, 1);
        fraction(Run.of("o9;p5,1;r0,1;r0,9;").then("read(1, 0)"), 0, 0, 1, 1);
        Run.says("BURNT: not those that were READ, by whomever");
        Run x = Run.of("o9;p5,1;p5,1;r0,6;r0,99;").then("read(1, 0)");
        fraction(x, 0, 1, 1, 1);
        fraction(x.then("undo()"), 0, 1, 19, 100);
        Run.says("BURNT: whenever they are DUE");
        fraction(Run.of("o9;p5,98;p5,99;r0,5;"), 0, 5, 1, 4);
        Run.says("BURNT: those at which one died, that one HEARD, too");
        fraction(Run.of("o9;p5,1;r0,5;r0,4;").then("aloud(0, 2, 0)"), 1, 5, 1, 2);
        Run.says("BURNT: that one survives it to READ all that are left");
        fraction(Run.of("o9;p5,1;r0,6;"), 0, 5, 1, 1);
        fraction(Run.of("o9;p5,1;r0,5;"), 0, 5, 1, 2);
        fraction(Run.of("o9;f5,1;r0,1;"), 0, 5, 1, 1);
        Run.says("BURNT: of one who is not FIT");
        fraction(Run.of("o9;p5,1;r9,14;"), 0, 5, 1, 2);
        Run.says("BURNT: BAD");
        Run y = Run.of("o9;p5,1;r0,5;r0,1;").due(BAD, "burnt(-1, 5, 0)", "burnt(2, 5, 0)", "burnt(HIGH, 5, 0)", "burnt(LOW, 5, 0)")
                .due(BAD, "burnt(0, 5, -1)", "burnt(0, 5, 2)", "burnt(0, 5, HIGH)", "burnt(0, 5, LOW)");
        Run.says("BURNT: STATE: it is not ALIVE; BAD ahead of it");
        y.then("day()").due(STATE, "burnt(1, 5, 0)", "burnt(1, 0, 1)").due(BAD, "burnt(1, 11, 0)", "burnt(1, 5, 2)", "burnt(1, -1, 0)");
        fraction(y, 0, 5, 1, 2);
    }

    private static void nothingChanges() {
        Run.says("FORETOLD (nothing changes)");
        Run x = Run.of("o60;p12,5;v7,3;f3,2;r20,50;r30,70;").then("row(0, 1, 2) set(0, 0, 20) set(0, 1, 33) read(1, 0) ask(0, 1)");
        int[] ahead = all(x);
        x.then("best(0) best(1) allRead(-1) allRead(1) bestAloud(1, 0) bestAloud(1, 1) kills(0) kills(1) post(0, 0) post(1, 1)")
                .then("crossOut(0, 1) crossOut(1, 1) dies(0) late(9) soOld(0, 32, 0) soOld(1, 30, 1) ages(0, 0, 0, 2)")
                .then("burnt(0, 3, 0) burnt(0, 3, 1)");
        int[] behind = all(x);
        for (int i = 0; i < ahead.length; i++) x.same("number " + i + " of all that is told", ahead[i], behind[i]);
        x.due("undo()", 0).due("reader(1, 0)", 30);
    }

    private static int[] all(Run x) {
        int[] all = new int[2 * 6 + 3 * 4 + 9 + 4];
        int n = 0;
        for (int r = 0; r < 2; r++) for (int what = 0; what < 6; what++) all[n++] = x.call("reader(" + r + ", " + what + ")");
        for (int l = 0; l < 3; l++) for (int what = 0; what < 4; what++) all[n++] = x.call("letter(" + l + ", " + what + ")");
        for (int what = 0; what < 9; what++) all[n++] = x.call("count(" + what + ")");
        for (int i = 0; i < 4; i++) all[n++] = x.call("trace(" + i + ")");
        return all;
    }
}
