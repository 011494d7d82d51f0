import java.util.Random;

/** All short texts, and random longer ones, against the document's grammar: which ones are programs. */
public final class AllTextsTest {
    // One character for all that the grammar treats alike.
    private static final String LETTERS = "{}[]()aA1;=<+-*!?#";
    // What stands around the short texts: ahead of them and behind them.
    private static final String[][] FRAMES = {{"{", "}"}, {"", ""}, {"{!", ";}"}, {"{#", "{}}"}, {"{a=", ";}"}, {"{[", ";}"}, {"{?a", "}"},
        {"{?", "{}}"}, {"{#a", "}"}, {"{#1", "}"}, {"A{}{", "}"}, {"A{", "}{}"}, {"A{}", "{A;}"}, {"{?a{}", "}"}, {"{![a", ";}"},
        {"{?a{#1{?a{#1{?a{", "}}}}}}"}, {"{?a{#1{?a{#1{!", ";}}}}}"}, {"{!----", ";}"}, {"{[([([", ";}"}};
    // The first frames stand around texts of up to so many characters, all others around shorter ones.
    private static final int WIDE_FRAMES = 4;
    private static final int MOST_LETTERS = 4;
    private static final int RANDOM_TEXTS = 40000;

    private static Subject x = new Subject();
    private static int programs = 0;
    private static int others = 0;

    private static void compare(String text) {
        if (x.callsLeft() < 20) {
            x = new Subject();
        }
        boolean right = Grammar.isProgram(text);
        boolean taken = !Check.compiled(x, text).equals(Check.NO_TEXT_OF_A_PROGRAM);
        Check.due(right == taken ? "" : "compile " + text + " takes it for a program", taken, right);
        programs += right ? 1 : 0;
        others += right ? 0 : 1;
    }

    private static void compareAll(String[] frame, String inside, int more) {
        compare(frame[0] + inside + frame[1]);
        for (int i = 0; i < LETTERS.length() && more > 0; i++) {
            compareAll(frame, inside + LETTERS.charAt(i), more - 1);
        }
    }

    private static void compareRandom() {
        Random random = new Random(11);
        Maker maker = new Maker(12, 120);
        for (int n = 0; n < RANDOM_TEXTS; n++) {
            String text = maker.program(5 + random.nextInt(55));
            String changed = n % 3 == 0 ? text : maker.spoiled(text);
            if (changed.length() <= Grammar.MOST_LETTERS) {
                compare(changed);
            }
        }
    }

    public static void main(String[] args) {
        for (int i = 0; i < FRAMES.length; i++) {
            compareAll(FRAMES[i], "", i < WIDE_FRAMES ? MOST_LETTERS : MOST_LETTERS - 1);
        }
        int ofAll = programs;
        compareRandom();
        System.out.println("AllTextsTest: " + ofAll + " programs among all texts, " + (programs - ofAll) + " among random ones, "
                + others + " others");
        Check.due("there are many of each", ofAll > 100 && programs - ofAll > 1000 && others > 1000, true);
        Check.finish("AllTextsTest");
    }
}
