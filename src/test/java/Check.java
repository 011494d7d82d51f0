import java.nio.charset.StandardCharsets;

/** What the tests share: comparing answers, and typing whole texts. */
final class Check {
    /** A call whose exception is of interest. */
    interface Call {
        long answer();
    }

    private static int asked = 0;
    private static int wrong = 0;

    private Check() {
    }

    static void due(String call, long got, long want) {
        asked++;
        if (got != want) {
            wrong++;
            System.out.println(call + " answered " + got + ", due is " + want);
        }
    }

    static void due(String call, boolean got, boolean want) {
        due(call, got ? 1 : 0, want ? 1 : 0);
    }

    static void dueText(String call, String got, String want) {
        asked++;
        if (!got.equals(want)) {
            wrong++;
            System.out.println(call + " answered " + got + ", due is " + want);
        }
    }

    /** The answer as a text, or the name of what is thrown. */
    static String answerOf(Call call) {
        try {
            return Long.toString(call.answer());
        } catch (RuntimeException e) {
            return e.getClass().getSimpleName();
        }
    }

    static void dueThrow(String call, Class<? extends RuntimeException> want, Call made) {
        dueText(call, answerOf(made), want.getSimpleName());
    }

    /** The letters as the bytes of a long, the last one lowest. */
    static long pack(String letters) {
        long part = 0;
        for (byte letter : letters.getBytes(StandardCharsets.ISO_8859_1)) {
            part = part << 8 | letter & 255;
        }
        return part;
    }

    static boolean typeAll(TimedCompiler x, String text) {
        boolean all = true;
        for (int from = 0; from < text.length(); from += 8) {
            all &= x.type(pack(text.substring(from, Math.min(from + 8, text.length()))));
        }
        return all;
    }

    /** Compiles a text in place of what was typed: as answerOf. */
    static String compiled(TimedCompiler x, String text) {
        x.wipe();
        due("type " + text, typeAll(x, text), true);
        return answerOf(x::compile);
    }

    static TimedCompiler with(String text) {
        TimedCompiler x = new TimedCompiler();
        String answer = compiled(x, text);
        due("compile " + text + " (" + answer + ") is a number", !answer.isEmpty() && Character.isDigit(answer.charAt(0)), true);
        return x;
    }

    static void finish(String test) {
        System.out.println(test + ": " + asked + " answers asked, " + wrong + " not as due");
        if (wrong != 0 || asked == 0) {
            System.exit(1);
        }
    }
}
