/** The edges of ROWS: promises 2 to 5, and what status() tells of them, 35. */
public final class RowBoundaries {
    private static final int NONE = Run.NONE, BAD = Run.BAD, NULL = Run.NULL, PLACE = Run.PLACE;
    private static final int SIZE = Run.SIZE, STORE = Run.STORE, KIND = Run.KIND;
    /** One reader, and nothing to read: ages() is 1 where ITEMS are AGE, AGE + 1 and so on, else 0. */
    private static final String ONE_OF_TEN = "o9;r10,11;", ONE_OF_NONE = "o9;r0,1;";

    public static void main(String[] args) {
        missingRows();
        rowNumbers();
        lanes();
        itemCounts();
        firstItems();
        inPlaceOfWhatIsThere();
        bytes();
        shorts();
        ints();
        wrappedItemsStay();
        setPlaces();
        setOrder();
        copyOfNone();
        copyToTheEnds();
        copyBeyondTheEnds();
        copyOnItself();
        copyOrder();
        copyLeavesTheRest();
        drops();
        allRows();
        statusAtFirst();
        statusOfEachFinding();
        statusPassesOver();
        Run.end();
    }

    private static void missingRows() {
        Run.says("ROWS 0 .. 7 are missing (at first)");
        Run x = Run.fresh().due("count(0)", 0);
        for (int r = 0; r < 8; r++) {
            x.due(NULL, "drop(" + r + ")", "set(" + r + ", 0, 1)", "copy(" + r + ", 0, " + r + ", 0, 0)");
        }
        x.due("count(0)", 0);
        Run y = Run.of(ONE_OF_TEN);
        for (int r = 0; r < 8; r++) y.due("ages(0, " + r + ", 0, 1)", NULL);
    }

    private static void rowNumbers() {
        Run.says("row: BAD: ROW");
        Run.fresh().due("row(0, 0, 1)", 1).due("row(7, 0, 1)", 1).due("count(0)", 2)
                .due(BAD, "row(-1, 0, 1)", "row(8, 0, 1)", "row(HIGH, 0, 1)", "row(LOW, 0, 1)").due("count(0)", 2);
        Run.says("set: BAD: ROW");
        Run.fresh().then("row(0, 0, 1) row(7, 0, 1)").due("set(0, 0, 3)", 3).due("set(7, 0, 4)", 4)
                .due(BAD, "set(-1, 0, 1)", "set(8, 0, 1)", "set(HIGH, 0, 1)", "set(LOW, 0, 1)");
        Run.says("copy: BAD: ROWS");
        Run.fresh().then("row(0, 0, 1) row(7, 0, 1)").due("copy(0, 0, 7, 0, 1)", 1).due("copy(7, 0, 0, 0, 1)", 1)
                .due(BAD, "copy(-1, 0, 0, 0, 1)", "copy(8, 0, 0, 0, 1)", "copy(HIGH, 0, 0, 0, 1)", "copy(LOW, 0, 0, 0, 1)")
                .due(BAD, "copy(0, 0, -1, 0, 1)", "copy(0, 0, 8, 0, 1)", "copy(0, 0, HIGH, 0, 1)", "copy(0, 0, LOW, 0, 1)");
        Run.says("drop: BAD");
        Run.fresh().then("row(0, 0, 1) row(7, 0, 2)").due(BAD, "drop(-1)", "drop(8)", "drop(HIGH)", "drop(LOW)")
                .due("drop(0)", 1).due("drop(7)", 2);
    }

    private static void lanes() {
        Run.says("a LANE (0 bytes, 1 shorts, 2 ints)");
        Run.fresh().due("row(3, 0, 1)", 1).due("set(3, 0, 70000)", 112).due("row(3, 1, 1)", 1).due("set(3, 0, 70000)", 4464)
                .due("row(3, 2, 1)", 1).due("set(3, 0, 70000)", 70000)
                .due(BAD, "row(3, -1, 1)", "row(3, 3, 1)", "row(3, HIGH, 1)", "row(3, LOW, 1)")
                .due("set(3, 0, 70000)", 70000);
    }

    private static void itemCounts() {
        Run.says("0 to 40 ITEMS; n above 40 is BAD, fewer than none SIZE");
        for (int lane = 0; lane < 3; lane++) {
            String row = "row(5, " + lane + ", ";
            Run.fresh().due(row + "0)", 0).due("set(5, 0, 1)", PLACE).due("drop(5)", 0)
                    .due(row + "1)", 1).due("set(5, 0, 1)", 1).due("set(5, 1, 1)", PLACE)
                    .due(row + "40)", 40).due("set(5, 39, 9)", 9).due("set(5, 40, 9)", PLACE)
                    .due(BAD, row + "41)", row + "HIGH)").due(SIZE, row + "-1)", row + "LOW)").due("drop(5)", 40);
        }
        Run.says("row: BAD ahead of SIZE");
        Run.fresh().due(BAD, "row(8, 0, -1)", "row(-1, 2, LOW)", "row(0, 3, -1)", "row(7, -1, -1)").due("count(0)", 0);
        Run.says("row: what is refused, or found, leaves what is there");
        Run.of(ONE_OF_TEN).then("row(0, 1, 2) set(0, 0, 10) set(0, 1, 11) row(0, 2, -1) row(0, 3, 1) row(0, 2, 41)")
                .due("ages(0, 0, 0, 2)", 1).due("set(0, 0, 65536)", 0).due("drop(0)", 2);
    }

    private static void firstItems() {
        Run.says("ITEMS, 0 at first");
        for (int lane = 0; lane < 3; lane++) {
            Run x = Run.of(ONE_OF_NONE).then("row(6, " + lane + ", 40)");
            for (int i = 0; i < 40; i++) x.due("ages(0, 6, " + i + ", 1)", 1);
        }
    }

    private static void inPlaceOfWhatIsThere() {
        Run.says("A ROW of a LANE with n ITEMS, in place of what is there");
        Run.of(ONE_OF_NONE).then("row(0, 2, 3) set(0, 0, 5) set(0, 1, 5) set(0, 2, 5)").due("row(0, 1, 2)", 2)
                .due(1, "ages(0, 0, 0, 1)", "ages(0, 0, 1, 1)").due("ages(0, 0, 2, 1)", PLACE)
                .due("set(0, 0, 65537)", 1).due("row(0, 1, 3)", 3)
                .due(1, "ages(0, 0, 0, 1)", "ages(0, 0, 1, 1)", "ages(0, 0, 2, 1)").due("count(0)", 1);
        Run.of(ONE_OF_NONE).then("row(7, 2, 40) set(7, 39, 5) drop(7) row(7, 2, 40)").due("ages(0, 7, 39, 1)", 1);
        Run.of(ONE_OF_TEN).then("row(1, 0, 40) row(2, 0, 40) set(1, 39, 10) set(2, 0, 10) row(3, 0, 40) row(1, 0, 1)")
                .due("ages(0, 2, 0, 1)", 1);
    }

    private static void bytes() {
        Run.says("its lowest bits, as many as the LANE has (read with their sign): bytes");
        Run.fresh().then("row(0, 0, 1)").due("set(0, 0, 127)", 127).due("set(0, 0, 128)", -128).due("set(0, 0, 255)", -1)
                .due("set(0, 0, 256)", 0).due("set(0, 0, 383)", 127).due("set(0, 0, 384)", -128).due("set(0, 0, -1)", -1)
                .due("set(0, 0, -128)", -128).due("set(0, 0, -129)", 127).due("set(0, 0, -256)", 0)
                .due("set(0, 0, HIGH)", -1).due("set(0, 0, LOW)", 0);
    }

    private static void shorts() {
        Run.says("its lowest bits, as many as the LANE has (read with their sign): shorts");
        Run.fresh().then("row(0, 1, 1)").due("set(0, 0, 128)", 128).due("set(0, 0, 32767)", 32767)
                .due("set(0, 0, 32768)", -32768).due("set(0, 0, 65535)", -1).due("set(0, 0, 65536)", 0)
                .due("set(0, 0, -32768)", -32768).due("set(0, 0, -32769)", 32767).due("set(0, 0, -65536)", 0)
                .due("set(0, 0, HIGH)", -1).due("set(0, 0, LOW)", 0);
    }

    private static void ints() {
        Run.says("its lowest bits, as many as the LANE has (read with their sign): ints");
        Run.fresh().then("row(0, 2, 1)").due("set(0, 0, 32768)", 32768).due("set(0, 0, 65536)", 65536)
                .due("set(0, 0, HIGH)", Run.HIGH).due("set(0, 0, LOW)", Run.LOW).due("set(0, 0, -1)", -1)
                .due("set(0, 0, -32769)", -32769);
        Run.says("an ITEM may be as a refusal is, and is none");
        Run.fresh().then("row(0, 2, 1) drop(1)").due("set(0, 0, -1000001)", BAD).due("status()", 0)
                .then("drop(1)").due("set(0, 0, -1000012)", PLACE).due("status()", 0);
    }

    private static void wrappedItemsStay() {
        Run.says("ITEM i becomes v, its lowest bits");
        Run x = Run.of(ONE_OF_TEN).then("row(0, 0, 3) row(1, 1, 3) row(2, 2, 3)");
        x.due("set(0, 0, 266)", 10).due("ages(0, 0, 0, 1)", 1).due("set(0, 1, -246)", 10).due("ages(0, 0, 1, 1)", 1);
        x.due("set(1, 0, 65546)", 10).due("ages(0, 1, 0, 1)", 1).due("set(1, 1, 266)", 266).due("ages(0, 1, 1, 1)", 0);
        x.due("set(2, 0, 65546)", 65546).due("ages(0, 2, 0, 1)", 0).due("set(2, 1, 10)", 10).due("ages(0, 2, 1, 1)", 1);
        x.due("copy(0, 0, 0, 2, 1)", 1).due("ages(0, 0, 2, 1)", 1).due("copy(1, 0, 1, 2, 1)", 1).due("ages(0, 1, 2, 1)", 1);
    }

    private static void setPlaces() {
        Run.says("set: PLACE: no such place of a ROW");
        Run.of(ONE_OF_TEN).then("row(0, 2, 3)").due("set(0, 0, 10)", 10).due("set(0, 2, 10)", 10)
                .due(PLACE, "set(0, -1, 7)", "set(0, 3, 7)", "set(0, 40, 7)", "set(0, HIGH, 7)", "set(0, LOW, 7)")
                .due("ages(0, 0, 0, 1)", 1).due("ages(0, 0, 1, 1)", 0).due("ages(0, 0, 2, 1)", 1);
        Run.says("set: a ROW of none has no place");
        Run.fresh().then("row(0, 2, 0)").due(PLACE, "set(0, 0, 7)", "set(0, -1, 7)").due("drop(0)", 0);
    }

    private static void setOrder() {
        Run.says("set: BAD, NULL, PLACE, the first that fits");
        Run.fresh().due("set(8, -1, 0)", BAD).due(NULL, "set(0, -1, 0)", "set(0, 40, 0)", "set(7, HIGH, 0)");
    }

    private static void copyOfNone() {
        Run.says("copy: n ITEMS: none, too, also at the ends");
        Run.fresh().then("row(0, 0, 4) row(1, 0, 0) row(2, 0, 0)").due("copy(0, 0, 0, 0, 0)", 0)
                .due("copy(0, 4, 0, 4, 0)", 0).due("copy(0, 4, 1, 0, 0)", 0).due("copy(1, 0, 2, 0, 0)", 0)
                .due(PLACE, "copy(0, 5, 1, 0, 0)", "copy(1, 0, 0, 5, 0)", "copy(1, 1, 2, 0, 0)", "copy(1, 0, 2, 1, 0)")
                .due(PLACE, "copy(0, -1, 1, 0, 0)", "copy(1, 0, 0, -1, 0)");
    }

    private static void copyToTheEnds() {
        Run.says("copy: i, j, n up to both ends");
        Run x = Run.of(ONE_OF_TEN).then("row(0, 1, 40) row(7, 1, 40)");
        for (int i = 34; i < 40; i++) x.call("set(0, " + i + ", " + (i - 24) + ")");
        x.due("copy(0, 0, 7, 0, 40)", 40).due("ages(0, 7, 34, 6)", 1).due("copy(0, 34, 7, 0, 6)", 6)
                .due("ages(0, 7, 0, 6)", 1).due("copy(7, 0, 0, 34, 6)", 6).due("ages(0, 0, 34, 6)", 1)
                .due("copy(0, 34, 7, 39, 1)", 1).due("ages(0, 7, 39, 1)", 1);
    }

    private static void copyBeyondTheEnds() {
        Run.says("copy: PLACE (i, j, n below 0, or beyond an end)");
        Run x = Run.of(ONE_OF_TEN).then("row(0, 2, 5) row(1, 2, 3) set(0, 0, 10) set(1, 0, 10) set(1, 1, 11) set(1, 2, 12)");
        x.due(PLACE, "copy(0, -1, 1, 0, 1)", "copy(0, 0, 1, -1, 1)", "copy(0, 0, 1, 0, -1)");
        x.due(PLACE, "copy(0, 3, 1, 0, 3)", "copy(0, 5, 1, 0, 1)", "copy(0, 0, 0, 0, 6)");
        x.due(PLACE, "copy(0, 0, 1, 1, 3)", "copy(0, 0, 1, 3, 1)", "copy(0, 0, 1, 0, 4)");
        x.due(PLACE, "copy(0, HIGH, 1, 0, 1)", "copy(0, 0, 1, HIGH, 1)", "copy(0, 0, 1, 0, HIGH)", "copy(0, 1, 1, 1, HIGH)");
        x.due(PLACE, "copy(0, HIGH, 1, HIGH, HIGH)", "copy(0, LOW, 1, 0, 1)", "copy(0, 0, 1, LOW, 1)");
        x.due(PLACE, "copy(0, 0, 1, 0, LOW)", "copy(0, LOW, 1, LOW, LOW)", "copy(0, HIGH, 1, 1, LOW)");
        x.due("ages(0, 0, 0, 1)", 1).due("ages(0, 1, 0, 3)", 1).due("drop(0)", 5).due("drop(1)", 3);
    }

    private static void copyOnItself() {
        Run.says("copy: as they were ahead");
        Run x = Run.of(ONE_OF_TEN).then("row(0, 0, 5) set(0, 0, 10) set(0, 1, 11) set(0, 2, 12) set(0, 3, 13)");
        x.due("copy(0, 0, 0, 1, 4)", 4).due("ages(0, 0, 1, 4)", 1).due("ages(0, 0, 0, 1)", 1);
        x.due("copy(0, 1, 0, 0, 4)", 4).due("ages(0, 0, 0, 4)", 1).due("ages(0, 0, 0, 5)", 0);
        x.due("copy(0, 0, 0, 0, 5)", 5).due("ages(0, 0, 0, 4)", 1);
        Run.says("copy: two ROWS of one LANE, each by itself");
        x.then("row(1, 0, 2)").due("copy(0, 0, 1, 0, 2)", 2).then("set(0, 0, 99)").due("ages(0, 1, 0, 2)", 1)
                .due("ages(0, 0, 0, 1)", 0);
    }

    private static void copyOrder() {
        Run.says("copy: BAD, NULL, STORE, PLACE, the first that fits");
        Run x = Run.fresh().then("row(0, 0, 2) row(1, 1, 2) row(2, 2, 2)");
        x.due(BAD, "copy(8, 0, 5, 0, 0)", "copy(5, 0, 8, 0, 0)", "copy(0, -1, 8, 0, 0)");
        x.due(NULL, "copy(5, 0, 0, 0, 0)", "copy(0, 0, 5, 0, 0)", "copy(5, -1, 5, 0, 0)", "copy(0, -1, 5, 0, 9)");
        x.due(STORE, "copy(0, 0, 1, 0, 1)", "copy(1, 0, 0, 0, 1)", "copy(0, 0, 2, 0, 0)", "copy(1, 0, 2, 0, 2)");
        x.due(STORE, "copy(0, -1, 1, 0, 1)", "copy(2, 0, 1, 9, 1)", "copy(2, 0, 0, 0, -1)", "copy(2, 3, 1, 0, 0)");
    }

    private static void copyLeavesTheRest() {
        Run.says("copy: n ITEMS of a from i on come to b from j on");
        Run x = Run.of(ONE_OF_TEN).then("row(0, 2, 3) row(1, 2, 4) set(0, 0, 12) set(0, 1, 13) set(0, 2, 99)")
                .then("set(1, 0, 10) set(1, 1, 11) set(1, 2, 99) set(1, 3, 99)");
        x.due("copy(0, 0, 1, 2, 2)", 2).due("ages(0, 1, 0, 4)", 1).due("copy(0, 2, 1, 0, 1)", 1).due("ages(0, 1, 0, 1)", 0);
        x.due("copy(1, 1, 0, 0, 1)", 1).due("copy(1, 2, 0, 1, 1)", 1).then("set(0, 2, 10)").due("ages(0, 0, 2, 1)", 1);
    }

    private static void drops() {
        Run.says("A ROW is missing from now on: how many ITEMS it had");
        Run.fresh().then("row(0, 0, 0) row(1, 1, 1) row(7, 2, 40)").due("drop(0)", 0).due("drop(1)", 1).due("drop(7)", 40)
                .due("count(0)", 0).due(NULL, "drop(0)", "drop(1)", "drop(7)", "set(7, 0, 1)", "copy(7, 0, 7, 0, 1)");
        Run.of(ONE_OF_TEN).then("row(3, 0, 1) drop(3)").due("ages(0, 3, 0, 1)", NULL).due("row(3, 0, 2)", 2)
                .due("drop(3)", 2);
    }

    private static void allRows() {
        Run.says("ROWS 0 .. 7, all of them full");
        Run x = Run.of(ONE_OF_NONE);
        for (int r = 0; r < 8; r++) {
            x.due("row(" + r + ", 2, 40)", 40).due("set(" + r + ", 0, " + r + ")", r).due("set(" + r + ", 39, -1)", -1);
        }
        x.due("count(0)", 8);
        // A neighbour that wrote beyond its end would stand in the next one's first ITEM.
        for (int r = 0; r < 8; r++) x.due("ages(0, " + r + ", 0, 1)", r == 0 ? 1 : 0).due("ages(0, " + r + ", 1, 1)", 1);
        for (int r = 7; r >= 0; r--) x.due("drop(" + r + ")", 40).due("count(0)", r);
    }

    private static void statusAtFirst() {
        Run.says("status: 0: there was none");
        Run.fresh().due("status()", 0);
        Run.says("status: 0: it had none");
        Run x = Run.of("o9;p1,1;r10,12;");
        x.then("drop(0) row(0, 2, 1)").due("status()", 0).then("drop(1) set(0, 0, 1)").due("status()", 0)
                .then("drop(1) copy(0, 0, 0, 0, 1)").due("status()", 0).then("drop(1) ages(0, 0, 0, 1)").due("status()", 0)
                .then("drop(1) as(0, 1)").due("status()", 0).then("drop(1) drop(0)").due("status()", 0);
    }

    private static void statusOfEachFinding() {
        Run.says("status: the number of its FINDING: 1 NULL");
        Run x = Run.of("o9;p1,1;r10,12;").then("row(0, 0, 2) row(1, 1, 2)");
        x.due("set(5, 0, 1)", NULL).due("status()", 1).then("row(0, 0, 2)").due("copy(0, 0, 5, 0, 1)", NULL).due("status()", 1);
        x.then("row(0, 0, 2)").due("drop(5)", NULL).due("status()", 1).then("row(0, 0, 2)");
        x.due("ages(0, 5, 0, 1)", NULL).due("status()", 1);
        Run.says("status: the number of its FINDING: 2 PLACE");
        x.due("set(0, 2, 1)", PLACE).due("status()", 2).then("row(0, 0, 2)").due("copy(0, 0, 0, 1, 2)", PLACE).due("status()", 2);
        x.then("row(0, 0, 2)").due("ages(0, 0, 2, 1)", PLACE).due("status()", 2);
        Run.says("status: the number of its FINDING: 3 KIND");
        x.due("as(0, 4)", KIND).due("status()", 3);
        Run.says("status: the number of its FINDING: 4 SIZE");
        x.due("row(0, 0, -1)", SIZE).due("status()", 4);
        Run.says("status: the number of its FINDING: 5 STORE");
        x.due("copy(0, 0, 1, 0, 1)", STORE).due("status()", 5).due("status()", 5);
    }

    private static void statusPassesOver() {
        Run.says("status: Of the latest call with a ROW, or as(), that was not BAD");
        Run.of("o9;p1,1;r10,12;").then("row(0, 0, 2) row(0, 0, -1)").then("row(8, 0, 1) row(0, 3, 1) row(0, 0, 41) set(8, 0, 1)")
                .then("copy(8, 0, 0, 0, 0) copy(0, 0, -1, 0, 0) drop(8) as(0, 6) as(1, 0) as(0, -1)")
                .then("ages(1, 0, 0, 1) ages(0, 8, 0, 1) ages(0, 0, 0, 0) ages(0, 0, 0, 7)").due("status()", 4);
        Run.says("status: of no other call");
        Run.of("o9;p1,1;r1,12;").then("row(0, 0, -1) feed(111) feed(300) office() fault() read(0, 0) aloud(0, 0, 0) cross(0, 1)")
                .then("day() undo() reader(0, 0) letter(0, 0) costs(0, 0) best(0) allRead(-1) bestAloud(0, 0) kills(0)")
                .then("post(0, 0) crossOut(0, 0) dies(0) late(0) soOld(0, 0, 0) burnt(0, 0, 0) image(0) restore(0) restore(1)")
                .then("kind(0) ask(0, 0) trace(0) count(0) status() read(9, 9) undo()").due("status()", 4);
        Run.says("status: another OFFICE, an IMAGE leave it");
        Run.of("o9;").then("image(0) drop(0)").feedAll("o1;").due("office()", 0).due("status()", 1)
                .due("restore(0)", 1).due("status()", 1).due("trace(0)", NONE);
    }
}
