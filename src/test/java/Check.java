import java.nio.charset.StandardCharsets;

/** What the tests share: comparing answers, a test for each sentence, and typing whole texts. */
final class Check {
    static final String NO_TEXT_OF_A_PROGRAM = "IllegalArgumentException";
    static final String NOT_PLAIN_OR_SHORT = "UnsupportedOperationException";
    static final String NO_PROGRAM = "IllegalStateException";
    static final String NO_SUCH = "IndexOutOfBoundsException";

    static final int LOWEST = Integer.MIN_VALUE;
    static final int HIGHEST = Integer.MAX_VALUE;

    /** A call whose exception is of interest. */
    interface Call {
        long answer();
    }

    private static String sentence = "";
    private static int sentences = 0;
    private static int asked = 0;
    private static int wrong = 0;

    private Check() {
    }

    /** A sentence of the document, and the test that is its own. */
    static void sentence(String words, Runnable test) {
        sentence = words;
        sentences++;
        int before = asked;
        try {
            test.run();
        } catch (RuntimeException e) {
            tell("the test", e.toString(), "an end without an exception");
        }
        if (asked == before) {
            tell("the test", "nothing", "an answer that is asked for");
        }
        sentence = "";
    }

    private static void tell(String call, String got, String want) {
        wrong++;
        if (!sentence.isEmpty()) {
            System.out.println("\"" + sentence + "\":");
        }
        System.out.println(call + " answered " + got + ", due is " + want);
    }

    static void due(String call, long got, long want) {
        asked++;
        if (got != want) {
            tell(call, Long.toString(got), Long.toString(want));
        }
    }

    static void due(String call, boolean got, boolean want) {
        asked++;
        if (got != want) {
            tell(call, Boolean.toString(got), Boolean.toString(want));
        }
    }

    static void dueText(String call, String got, String want) {
        asked++;
        if (!got.equals(want)) {
            tell(call, got, want);
        }
    }

    /** The answer as a text, or the name of what is thrown. */
    static String answerOf(Call call) {
        try {
            return Long.toString(call.answer());
        } catch (RuntimeException e) {
            return e.getClass().getSimpleName();
        }
    }

    static void dueThrow(String call, String want, Call made) {
        dueText(call, answerOf(made), want);
    }

    static boolean isNumber(String answer) {
        return !answer.endsWith("Exception");
    }

    /** The letters as the bytes of a long, the last one lowest. */
    static long pack(String letters) {
        long part = 0;
        for (byte letter : letters.getBytes(StandardCharsets.ISO_8859_1)) {
            part = part << 8 | letter & 255;
        }
        return part;
    }

    static boolean typeAll(Subject x, String text) {
        boolean all = true;
        for (int from = 0; from < text.length(); from += 8) {
            all &= x.type(pack(text.substring(from, Math.min(from + 8, text.length()))));
        }
        return all;
    }

    static Subject typed(String text) {
        Subject x = new Subject();
        due("type " + text, typeAll(x, text), true);
        return x;
    }

    /** Compiles a text in place of what was typed: as answerOf. */
    static String compiled(Subject x, String text) {
        x.wipe();
        due("type " + text, typeAll(x, text), true);
        return answerOf(x::compile);
    }

    static String compiled(String text) {
        return compiled(new Subject(), text);
    }

    static Subject with(String text) {
        Subject x = new Subject();
        String answer = compiled(x, text);
        due("compile " + text + " (" + answer + ") answers a number", isNumber(answer), true);
        return x;
    }

    /** The answer of run and then those of latest from 0 on. */
    static void dueRun(String name, Subject x, int... answers) {
        due(name + " run()", x.run(), answers[0]);
        for (int w = 0; w < answers.length - 1; w++) {
            due(name + " latest(" + w + ")", x.latest(w), answers[w + 1]);
        }
    }

    static void finish(String test) {
        System.out.println(test + ": " + (sentences == 0 ? "" : sentences + " sentences, ") + asked
                + " answers asked, " + wrong + " not as due");
        if (wrong != 0 || asked == 0) {
            System.exit(1);
        }
    }
}
