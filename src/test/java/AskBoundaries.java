/** The edges of KINDS, of ASKS and THE TRACE: promises 30 to 33. */
public final class AskBoundaries {
    private static final int NONE = Run.NONE, BAD = Run.BAD, KIND = Run.KIND;
    /** Of every SORT one, in the order of the KINDS 1 to 5. */
    private static final String ALL_SORTS = "o99;p9,1;v9,1;l9,1;f9,1;s9,1;r0,99;r0,99;";

    public static void main(String[] args) {
        kinds();
        taken();
        takenOrder();
        asksRefused();
        sizeOfEachKind();
        markOfEachKind();
        smallestAndGreatest();
        readByAll();
        traces();
        traceNumbers();
        traceStays();
        Run.end();
    }

    private static void kinds() {
        Run.says("The KIND of a LETTER, as told (1 to 5)");
        Run x = Run.of(ALL_SORTS);
        for (int l = 0; l < 5; l++) x.due("kind(" + l + ")", l + 1);
        Run.of("o9;s1,1;f1,1;l1,1;v1,1;p1,1;s1,1;").due("kind(0)", 5).due("kind(3)", 2).due("kind(4)", 1).due("kind(5)", 5);
        Run.says("kind: BAD");
        x.due(BAD, "kind(-1)", "kind(5)", "kind(6)", "kind(HIGH)", "kind(LOW)");
        Run.of("o9;r1,2;").due(BAD, "kind(0)", "kind(-1)");
    }

    private static void taken() {
        Run.says("0 LETTER; 1 PROSE, a LETTER; 2 VERSE, a PROSE; 3 LOVE, a PROSE; 4 FIGURES, a LETTER; 5 SEALED, a FIGURES");
        Run x = Run.of(ALL_SORTS);
        String[] areOf = {"01", "012", "013", "04", "045"};
        for (int l = 0; l < 5; l++) {
            for (int kind = 0; kind <= 5; kind++) {
                boolean is = areOf[l].indexOf('0' + kind) >= 0;
                x.due("as(" + l + ", " + kind + ")", is ? l : KIND).due("status()", is ? 0 : 3);
            }
        }
        Run.says("as: the LETTER's number: the first, the last");
        Run.of("o9;p1,1;f1,1;f1,1;f1,1;f1,1;s1,1;").due("as(0, 0)", 0).due("as(5, 0)", 5).due("as(5, 4)", 5).due("as(5, 5)", 5);
    }

    private static void takenOrder() {
        Run.says("as: BAD: a LETTER, a KIND (0 .. 5)");
        Run x = Run.of(ALL_SORTS).due("as(0, 4)", KIND);
        x.due(BAD, "as(-1, 0)", "as(5, 0)", "as(6, 0)", "as(HIGH, 0)", "as(LOW, 0)");
        x.due(BAD, "as(0, -1)", "as(0, 6)", "as(0, HIGH)", "as(0, LOW)").due("status()", 3);
        Run.says("as: BAD ahead of KIND");
        x.due("as(0, 1)", 0).due(BAD, "as(5, 4)", "as(0, 6)", "as(-1, 5)").due("status()", 0).due("as(0, 5)", KIND);
        Run.fresh().due(BAD, "as(0, 0)", "as(0, 1)").due("status()", 0);
    }

    private static void asksRefused() {
        Run.says("An ASK (0, 1) of a LETTER. BAD");
        Run.of(ALL_SORTS).due(BAD, "ask(-1, 0)", "ask(5, 0)", "ask(HIGH, 0)", "ask(LOW, 1)", "ask(6, 1)")
                .due(BAD, "ask(0, -1)", "ask(0, 2)", "ask(0, HIGH)", "ask(0, LOW)").due("trace(0)", NONE);
        Run.of("o9;").due(BAD, "ask(0, 0)", "ask(0, 1)");
    }

    /** An ASK, and all that it leaves in THE TRACE. */
    private static void asked(Run x, int letter, int what, int answer, int... bodies) {
        x.due("ask(" + letter + ", " + what + ")", answer);
        for (int i = 0; i < bodies.length; i++) x.due("trace(" + i + ")", bodies[i]);
        for (int i = bodies.length; i <= 16; i++) x.due("trace(" + i + ")", NONE);
    }

    private static void sizeOfEachKind() {
        Run x = Run.of(ALL_SORTS);
        Run.says("0 SIZE: 11 of PROSE: what 10 gives, and MARK");
        asked(x, 0, 0, 9 + 0, 11, 10, 21, 20);
        Run.says("0 SIZE: 12 of VERSE: 0 less what 11 gives; MARK is asked of the same LETTER anew");
        asked(x, 1, 0, -(9 + 2), 12, 11, 10, 24, 21, 20);
        Run.says("0 SIZE: of LOVE letters that of the nearest KIND that it is, too");
        asked(x, 2, 0, 9 + 2 - 1000, 11, 10, 22, 21, 20);
        Run.says("0 SIZE: 13 of FIGURES: what 10 gives, less 100");
        asked(x, 3, 0, -91, 13, 10);
        Run.says("0 SIZE: 14 of SEALED ones: twice what 13 gives (asked once)");
        asked(x, 4, 0, -182, 14, 13, 10);
    }

    private static void markOfEachKind() {
        Run x = Run.of(ALL_SORTS);
        Run.says("1 MARK: 21 of PROSE: what 20 gives, and how often it was READ by all");
        asked(x, 0, 1, 0, 21, 20);
        Run.says("1 MARK: 24 of VERSE: twice what 21 gives (asked once)");
        asked(x, 1, 1, 2, 24, 21, 20);
        Run.says("1 MARK: 22 of LOVE letters: what 21 gives, less 1000");
        asked(x, 2, 1, -998, 22, 21, 20);
        Run.says("1 MARK: 23 of FIGURES: what 20 gives, less SIZE");
        asked(x, 3, 1, 3 + 91, 23, 20, 13, 10);
        Run.says("1 MARK: of SEALED ones that of the nearest KIND; SIZE is asked of the same LETTER anew");
        asked(x, 4, 1, 4 + 182, 23, 20, 14, 13, 10);
    }

    private static void smallestAndGreatest() {
        Run.says("PAGES 1 and 40, number 0 and 5");
        Run x = Run.of("o99;f1,1;f40,1;s1,1;s40,1;v1,1;v40,1;").due("ask(0, 0)", -99).due("ask(0, 1)", 99).due("ask(1, 0)", -60)
                .due("ask(1, 1)", 61).due("ask(2, 0)", -198).due("ask(2, 1)", 200).due("ask(3, 0)", -120).due("ask(3, 1)", 123)
                .due("ask(4, 0)", -(1 + 8)).due("ask(4, 1)", 8).due("ask(5, 0)", -(40 + 10)).due("ask(5, 1)", 10);
        Run.says("PAGES as they are now");
        x.then("cross(1, 39) cross(5, 9)").due("ask(1, 0)", -99).due("ask(1, 1)", 100).due("ask(5, 0)", -41).due("ask(5, 1)", 10);
        x.then("undo() undo()").due("ask(1, 0)", -60);
    }

    private static void readByAll() {
        Run.says("how often it was READ by all: not by one who died at it, nor HEARD");
        Run x = Run.of("o99;l1,1;p1,1;v1,1;f1,1;r0,99;r0,2;").then("aloud(0, 2, 1) read(0, 1) read(1, 1)");
        // Reader 1 is a DAY older behind what it HEARD, and dies at the page that it READS.
        x.due("letter(1, 2)", 2).due("ask(1, 1)", 3).due("ask(1, 0)", 4).then("read(0, 0) read(0, 2) read(0, 2) read(0, 3)");
        x.due("ask(0, 1)", -999).due("ask(0, 0)", -998).due("ask(2, 1)", 8).due("ask(2, 0)", -9).due("ask(3, 1)", 3 + 99);
    }

    private static void traces() {
        Run.says("THE TRACE is empty ahead of it");
        Run x = Run.of(ALL_SORTS);
        asked(x, 1, 0, -11, 12, 11, 10, 24, 21, 20);
        asked(x, 3, 0, -91, 13, 10);
        asked(x, 0, 1, 0, 21, 20);
        asked(x, 0, 1, 0, 21, 20);
    }

    private static void traceNumbers() {
        Run.says("Number i of THE TRACE; NONE");
        Run.fresh().due(NONE, "trace(0)", "trace(-1)", "trace(15)", "trace(16)", "trace(HIGH)", "trace(LOW)");
        Run.of(ALL_SORTS).due(NONE, "trace(0)", "trace(-1)").then("ask(3, 0)").due("trace(0)", 13).due("trace(1)", 10)
                .due(NONE, "trace(2)", "trace(-1)", "trace(15)", "trace(16)", "trace(17)", "trace(HIGH)", "trace(LOW)");
    }

    private static void traceStays() {
        Run.says("BAD (THE TRACE stays then)");
        Run x = Run.of(ALL_SORTS).then("ask(4, 1)").due(BAD, "ask(5, 0)", "ask(-1, 1)", "ask(0, 2)", "ask(0, -1)");
        x.due("trace(0)", 23).due("trace(1)", 20).due("trace(2)", 14).due("trace(3)", 13).due("trace(4)", 10).due("trace(5)", NONE);
        Run.says("no other call leaves a number in THE TRACE");
        x.then("kind(0) as(0, 0) as(0, 5) read(0, 0) cross(0, 1) day() undo() image(0) count(0) status() costs(0, 0) best(0)");
        x.due("trace(0)", 23).due("trace(4)", 10).due("trace(5)", NONE);
    }
}
