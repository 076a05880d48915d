import java.util.ArrayList;
import java.util.List;

/**
 * What is refused, or found, changes nothing but status(): of two objects that
 * went the same way one has a call refused; then both are asked for all that
 * they hold, and must answer the same.
 */
public final class RefusalTest {
    private static final int BAD = Run.BAD, STATE = Run.STATE, FULL = Run.FULL;
    private static final int NULL = Run.NULL, PLACE = Run.PLACE, KIND = Run.KIND, SIZE = Run.SIZE, STORE = Run.STORE;
    private static final String ROWS = "row(0, 0, 3) row(1, 1, 4) row(2, 2, 2) row(3, 0, 5) row(7, 2, 0) set(0, 1, 20) set(1, 0, 20)"
            + " set(1, 3, 32) set(2, 0, 20) set(2, 1, 21) set(3, 0, 20)";
    /** What status() tells ahead of the refused call. */
    private static final int STATUS_AHEAD = 1;

    private interface Way {
        Run gone();
    }

    public static void main(String[] args) {
        rows();
        tape();
        acts();
        told();
        foretold();
        images();
        asked();
        withoutOffice();
        fullTape();
        noActs();
        Run.end();
    }

    /** Reader 0 is FIT, 1 too, 2 is retired, 3 dead; six ACTS, one IMAGE, a begun tape, a TRACE of five. */
    private static Run busy() {
        return Run.of("o60;p12,5;v7,3;s9,50;r20,50;r30,70;r58,200;r0,2;").then(ROWS)
                .then("read(0, 2) image(0) aloud(0, 14, 0) cross(1, 2) day() day() aloud(1, 1, 2) ask(2, 1)")
                .feedAll("o9;r1,").then("drop(5)");
    }

    private static Run withoutAny() {
        return Run.fresh().then(ROWS).feedAll("o9;r1,").then("drop(5)");
    }

    private static Run full() {
        Run x = busy();
        for (int n = 6; n < 120; n++) x.call("feed(0)");
        return x;
    }

    private static Run idle() {
        return Run.of("o60;p12,5;v7,3;s9,50;r20,50;r30,70;r58,200;r60,90;").then(ROWS).then("image(1) drop(5)");
    }

    private static void refused(Way way, int answer, String... calls) {
        int finding = answer <= NULL ? -1000010 - answer : STATUS_AHEAD;
        for (String call : calls) {
            Run.says("What is refused, or found, changes nothing but status(): " + call);
            Run x = way.gone().due("status()", STATUS_AHEAD).due(call, answer).due("status()", finding);
            Run twin = way.gone();
            List<Integer> got = new ArrayList<>(), want = new ArrayList<>();
            List<String> asked = new ArrayList<>();
            askForAll(x, got, asked);
            askForAll(twin, want, new ArrayList<>());
            for (int i = 0; i < want.size(); i++) x.same(asked.get(i) + " (number " + i + ")", want.get(i), got.get(i));
        }
    }

    private static void ask(Run x, String call, List<Integer> answers, List<String> asked) {
        answers.add(x.call(call));
        asked.add(call);
    }

    /** Asks for what can be looked at, then takes the object to pieces. */
    private static void askForAll(Run x, List<Integer> answers, List<String> asked) {
        askWhatIsTold(x, answers, asked);
        for (int r = 0; r < 8; r++) {
            for (int i = 0; i < 4; i++) ask(x, "ages(0, " + r + ", " + i + ", 1)", answers, asked);
            ask(x, "set(" + r + ", 0, 70000)", answers, asked);
            ask(x, "drop(" + r + ")", answers, asked);
        }
        ask(x, "restore(1)", answers, asked);
        for (int act = 0; act < 8; act++) {
            String[] calls = {"undo()", "reader(0, 0)", "reader(3, 0)", "reader(2, 5)", "letter(1, 0)", "letter(2, 2)", "count(3)"};
            for (String call : calls) ask(x, call, answers, asked);
        }
        ask(x, "restore(0)", answers, asked);
        askWhatIsTold(x, answers, asked);
        String[] last = {"feed(57)", "feed(59)", "count(8)", "office()", "fault()", "reader(0, 0)", "reader(0, 1)", "count(7)"};
        for (String call : last) ask(x, call, answers, asked);
    }

    private static void askWhatIsTold(Run x, List<Integer> answers, List<String> asked) {
        for (int r = 0; r < 4; r++) {
            for (int what = 0; what < 6; what++) ask(x, "reader(" + r + ", " + what + ")", answers, asked);
        }
        for (int l = 0; l < 4; l++) {
            for (int what = 0; what < 4; what++) ask(x, "letter(" + l + ", " + what + ")", answers, asked);
            ask(x, "kind(" + l + ")", answers, asked);
        }
        for (int what = 0; what < 9; what++) ask(x, "count(" + what + ")", answers, asked);
        for (int i = 0; i < 7; i++) ask(x, "trace(" + i + ")", answers, asked);
        ask(x, "fault()", answers, asked);
    }

    private static void rows() {
        refused(RefusalTest::busy, BAD, "row(-1, 0, 1)", "row(8, 0, 1)", "row(0, -1, 1)", "row(0, 3, 1)", "row(0, 2, 41)");
        refused(RefusalTest::busy, SIZE, "row(0, 2, -1)", "row(5, 0, -1)", "row(7, 0, LOW)");
        refused(RefusalTest::busy, BAD, "set(-1, 0, 1)", "set(8, 0, 1)");
        refused(RefusalTest::busy, NULL, "set(5, 0, 1)", "set(4, -1, 1)");
        refused(RefusalTest::busy, PLACE, "set(0, -1, 20)", "set(0, 3, 20)", "set(7, 0, 20)", "set(1, 4, 20)");
        refused(RefusalTest::busy, BAD, "copy(-1, 0, 1, 0, 1)", "copy(8, 0, 1, 0, 1)", "copy(0, 0, -1, 0, 1)", "copy(0, 0, 8, 0, 1)");
        refused(RefusalTest::busy, NULL, "copy(5, 0, 0, 0, 1)", "copy(0, 0, 5, 0, 1)");
        refused(RefusalTest::busy, STORE, "copy(0, 1, 1, 0, 1)", "copy(2, 0, 0, 0, 1)", "copy(1, 0, 2, 1, 1)");
        refused(RefusalTest::busy, PLACE, "copy(0, 1, 3, 0, 3)", "copy(3, 0, 0, 1, 3)", "copy(3, 0, 0, 0, 4)", "copy(0, -1, 3, 0, 1)");
        refused(RefusalTest::busy, PLACE, "copy(3, 0, 0, -1, 1)", "copy(3, 0, 0, 0, -1)", "copy(2, 0, 7, 0, 1)", "copy(2, 1, 2, 0, HIGH)");
        refused(RefusalTest::busy, BAD, "drop(-1)", "drop(8)");
        refused(RefusalTest::busy, NULL, "drop(4)", "drop(6)");
    }

    private static void tape() {
        refused(RefusalTest::busy, BAD, "feed(-1)", "feed(256)", "feed(HIGH)");
    }

    private static void acts() {
        refused(RefusalTest::busy, BAD, "read(-1, 0)", "read(4, 0)", "read(0, -1)", "read(0, 3)", "read(3, 3)");
        refused(RefusalTest::busy, STATE, "read(2, 0)", "read(3, 0)");
        refused(RefusalTest::busy, BAD, "aloud(-1, 0, 0)", "aloud(4, 0, 0)", "aloud(0, 0, -1)", "aloud(0, 0, 3)", "aloud(0, 1, 0)");
        refused(RefusalTest::busy, BAD, "aloud(0, 16, 0)", "aloud(0, -1, 0)", "aloud(0, 18, 0)", "aloud(0, 3, 0)", "aloud(2, 4, 0)");
        refused(RefusalTest::busy, STATE, "aloud(2, 0, 0)", "aloud(3, 0, 0)", "aloud(0, 8, 0)", "aloud(0, 10, 0)", "aloud(2, 3, 1)");
        refused(RefusalTest::busy, BAD, "cross(-1, 1)", "cross(3, 1)", "cross(0, 0)", "cross(0, 40)", "cross(0, -1)");
        refused(RefusalTest::busy, STATE, "cross(0, 12)", "cross(1, 5)", "cross(2, 39)");
    }

    private static void told() {
        refused(RefusalTest::busy, BAD, "reader(-1, 0)", "reader(4, 0)", "reader(0, -1)", "reader(0, 6)");
        refused(RefusalTest::busy, BAD, "letter(-1, 0)", "letter(3, 0)", "letter(0, -1)", "letter(0, 4)");
        refused(RefusalTest::busy, BAD, "costs(-1, 0)", "costs(4, 0)", "costs(0, -1)", "costs(0, 3)");
        refused(RefusalTest::busy, BAD, "count(-1)", "count(9)");
    }

    private static void foretold() {
        refused(RefusalTest::busy, BAD, "best(-1)", "best(3)", "allRead(-2)", "allRead(3)");
        refused(RefusalTest::busy, BAD, "bestAloud(-1, 0)", "bestAloud(3, 0)", "bestAloud(0, -1)", "bestAloud(0, 2)");
        refused(RefusalTest::busy, BAD, "kills(-1)", "kills(4)", "post(-1, 0)", "post(4, 0)", "post(0, -1)", "post(0, 2)");
        refused(RefusalTest::busy, STATE, "kills(3)", "post(3, 0)", "post(3, 1)", "crossOut(3, 0)", "burnt(3, 5, 0)", "burnt(3, 5, 1)");
        refused(RefusalTest::busy, BAD, "crossOut(-1, 0)", "crossOut(4, 0)", "crossOut(0, -1)", "crossOut(0, 3)", "dies(-1)", "dies(4)");
        refused(RefusalTest::busy, BAD, "late(-1)", "late(100)", "soOld(-1, 0, 0)", "soOld(4, 0, 0)", "soOld(0, -1, 0)");
        refused(RefusalTest::busy, BAD, "soOld(0, 1000, 0)", "soOld(0, 0, -1)", "soOld(0, 0, 2)");
        refused(RefusalTest::busy, BAD, "ages(-1, 0, 0, 1)", "ages(4, 0, 0, 1)", "ages(0, -1, 0, 1)", "ages(0, 8, 0, 1)");
        refused(RefusalTest::busy, BAD, "ages(0, 0, 0, 0)", "ages(0, 0, 0, 7)");
        refused(RefusalTest::busy, NULL, "ages(0, 5, 0, 1)");
        refused(RefusalTest::busy, PLACE, "ages(0, 0, -1, 1)", "ages(0, 0, 3, 1)", "ages(0, 7, 0, 1)");
        refused(RefusalTest::busy, BAD, "burnt(-1, 5, 0)", "burnt(4, 5, 0)", "burnt(0, -1, 0)", "burnt(0, 11, 0)", "burnt(0, 5, 2)");
    }

    private static void images() {
        refused(RefusalTest::busy, BAD, "image(-1)", "image(2)", "restore(-1)", "restore(2)");
        refused(RefusalTest::busy, STATE, "restore(1)");
    }

    private static void asked() {
        refused(RefusalTest::busy, BAD, "kind(-1)", "kind(3)", "as(-1, 0)", "as(3, 0)", "as(0, -1)", "as(0, 6)");
        refused(RefusalTest::busy, KIND, "as(0, 2)", "as(1, 3)", "as(2, 1)");
        refused(RefusalTest::busy, BAD, "ask(-1, 0)", "ask(3, 0)", "ask(0, -1)", "ask(0, 2)");
    }

    private static void withoutOffice() {
        refused(RefusalTest::withoutAny, STATE, "day()", "undo()", "allRead(-1)", "allRead(9)", "late(0)", "late(100)");
        refused(RefusalTest::withoutAny, STATE, "image(0)", "image(1)", "restore(0)", "restore(1)");
        refused(RefusalTest::withoutAny, BAD, "read(0, 0)", "aloud(0, 0, 0)", "cross(0, 1)", "reader(0, 0)", "letter(0, 0)", "costs(0, 0)");
        refused(RefusalTest::withoutAny, BAD, "best(0)", "bestAloud(0, 0)", "kills(0)", "post(0, 0)", "crossOut(0, 0)", "dies(0)");
        refused(RefusalTest::withoutAny, BAD, "soOld(0, 0, 0)", "ages(0, 0, 0, 1)", "burnt(0, 0, 0)", "image(2)", "restore(2)");
        refused(RefusalTest::withoutAny, BAD, "kind(0)", "as(0, 0)", "ask(0, 0)", "feed(256)");
    }

    private static void fullTape() {
        refused(RefusalTest::full, FULL, "feed(0)", "feed(59)", "feed(255)");
        refused(RefusalTest::full, BAD, "feed(256)", "feed(-1)");
    }

    private static void noActs() {
        refused(RefusalTest::idle, STATE, "undo()", "restore(0)", "read(3, 0)", "aloud(3, 7, 0)");
    }
}
