import java.lang.reflect.Method;
import java.lang.reflect.Modifier;
import java.util.HashMap;
import java.util.Map;

/**
 * One object and the calls that are made on it, each written as the document
 * writes it: "row(0, 2, 40)", where HIGH and LOW stand for the ends of int.
 * What does not hold is told with the sentence of the document it belongs to.
 */
final class Run {
    static final int NONE = -1000000, BAD = -1000001, STATE = -1000002, FULL = -1000003;
    static final int NULL = -1000011, PLACE = -1000012, KIND = -1000013, SIZE = -1000014, STORE = -1000015;
    static final int HIGH = Integer.MAX_VALUE, LOW = Integer.MIN_VALUE;
    /** What later calls of an object answer is free, so that no test may ask for it. */
    private static final int MOST_CALLS = 512;

    private static final Map<String, Method> FACE = new HashMap<>();
    private static String sentence = "";
    private static int sentences;
    private static int askedOfSentence;
    private static int asked;
    private static int wrong;

    private final AgingLetters x = new AgingLetters();
    private final StringBuilder told = new StringBuilder();
    private int calls;

    static {
        for (Method m : AgingLetters.class.getDeclaredMethods()) {
            if (Modifier.isPublic(m.getModifiers())) FACE.put(m.getName(), m);
        }
    }

    private Run() {
    }

    /** From here on it is this sentence that is tested. */
    static void says(String words) {
        closeSentence();
        sentence = words;
        sentences++;
        askedOfSentence = 0;
    }

    private static void closeSentence() {
        if (sentences > 0 && askedOfSentence == 0) fail("nothing was asked");
    }

    static void end() {
        closeSentence();
        System.out.println(sentences + " sentences, " + asked + " answers, " + wrong + " not as due");
        if (wrong != 0) System.exit(1);
    }

    private static void fail(String what) {
        wrong++;
        System.out.println("\"" + sentence + "\": " + what);
    }

    /** A new object, on which nothing was called. */
    static Run fresh() {
        return new Run();
    }

    /** A new object with the OFFICE that a text tells. */
    static Run of(String text) {
        Run run = new Run();
        run.feedAll(text);
        int answer = run.call("office()");
        if (answer < 0) fail("office() of " + text + " answered " + answer);
        return run;
    }

    Run feedAll(String text) {
        for (int i = 0; i < text.length(); i++) call("feed(" + (int) text.charAt(i) + ")");
        return this;
    }

    /** Makes calls, one behind the other, whatever they answer: "day() read(0, 1)". */
    Run then(String manyCalls) {
        for (String one : manyCalls.split("\\) *")) call(one + ")");
        return this;
    }

    int call(String text) {
        calls++;
        if (calls > MOST_CALLS) fail("more than " + MOST_CALLS + " calls of one object");
        told.append(' ').append(text);
        String[] words = text.split("[(), ]+");
        Object[] numbers = new Object[words.length - 1];
        for (int i = 0; i < numbers.length; i++) numbers[i] = number(words[i + 1]);
        try {
            return (int) FACE.get(words[0]).invoke(x, numbers);
        } catch (ReflectiveOperationException e) {
            throw new IllegalStateException(text, e);
        }
    }

    private static int number(String word) {
        if (word.equals("HIGH")) return HIGH;
        if (word.equals("LOW")) return LOW;
        return Integer.parseInt(word);
    }

    Run due(String call, int want) {
        int got = call(call);
        same(call, want, got);
        return this;
    }

    /** The same answer is due of several calls. */
    Run due(int want, String... several) {
        for (String call : several) due(call, want);
        return this;
    }

    void same(String what, int want, int got) {
        asked++;
        askedOfSentence++;
        if (want == got) return;
        fail(what + " answered " + got + ", due is " + want + ", behind" + told);
    }
}
