import java.util.Arrays;
import java.util.List;
import java.util.Random;

/** Programs made at random, and texts that are nearly programs, against the Oracle. */
public final class OracleTest {
    private static final int TEXTS = 60000;
    private static final int[] STARTS = {0, 1, -1, 2, 3, 7, 8, 100, Integer.MIN_VALUE, Integer.MAX_VALUE};

    private static int programs = 0;
    private static int noPrograms = 0;
    private static int refused = 0;
    private static final int[] runs = new int[4];

    private static String verdict(String text) {
        try {
            return Integer.toString(new Oracle(text).code.size());
        } catch (Oracle.NoProgram e) {
            noPrograms++;
            return Check.NO_TEXT_OF_A_PROGRAM;
        } catch (Oracle.Refused e) {
            refused++;
            return Check.NOT_PLAIN_OR_SHORT;
        }
    }

    private static void compare(String text, Random random) {
        String want = verdict(text);
        Subject x = new Subject();
        String got = Check.compiled(x, text);
        Check.dueText("compile " + text, got, want);
        if (!Check.isNumber(want) || !got.equals(want)) {
            Check.due("length " + text, x.length(), text.length());
            return;
        }
        programs++;
        Oracle oracle = new Oracle(text);
        for (int k = 0; k < oracle.code.size(); k++) {
            Check.due(text + " code(" + k + ", 0)", x.code(k, 0), oracle.code.get(k)[0]);
            Check.due(text + " code(" + k + ", 1)", x.code(k, 1), oracle.code.get(k)[1]);
        }
        Check.due(text + " time()", x.time(), oracle.time(-1));
        Check.due(text + " depth()", x.depth(), oracle.depth(-1));
        for (int p = 0; p < 4; p++) {
            Check.due(text + " procedure(" + p + ", 0)", x.procedure(p, 0), oracle.first(p));
            Check.due(text + " procedure(" + p + ", 1)", x.procedure(p, 1), oracle.time(p));
            Check.due(text + " procedure(" + p + ", 2)", x.procedure(p, 2), oracle.depth(p));
        }
        compareRuns(Check.with(text), text, oracle, random);
    }

    private static void compareRuns(Subject x, String text, Oracle oracle, Random random) {
        int[] places = new int[14];
        for (int n = 0; n < 3; n++) {
            for (int i = 0; i < 14; i++) {
                places[i] = random.nextInt(3) > 0 ? random.nextInt(8) : STARTS[random.nextInt(STARTS.length)];
                x.set(i, places[i]);
            }
            String from = text + " from " + Arrays.toString(places);
            List<Integer> told = oracle.run(places);
            Check.due(from + " run()", x.run(), told.get(0));
            runs[told.get(0)]++;
            for (int w = 0; w < 4; w++) {
                Check.due(from + " latest(" + w + ")", x.latest(w), told.get(w + 1));
            }
            for (int k = 0; k < 34; k++) {
                int value = k;
                String want = k < 32 && k < told.get(4) ? told.get(5 + k).toString() : Check.NO_SUCH;
                Check.dueText(from + " output(" + k + ")", Check.answerOf(() -> x.output(value)), want);
            }
            for (int i = 0; i < 14; i++) {
                Check.due(from + " get(" + i + ")", x.get(i), places[i]);
            }
            Check.due(from + " stays in its time", x.latest(0) <= x.time(), true);
            Check.due(from + " stays in its depth", x.latest(1) <= x.depth(), true);
        }
    }

    private static void compareVerdict(String text) {
        Check.dueText("compile " + text, Check.compiled(text), verdict(text));
    }

    /** All texts that are one character off from a program: one is left out, put in, or another. */
    private static void compareNeighbours(String text) {
        for (int at = 0; at <= text.length(); at++) {
            String head = text.substring(0, at);
            for (char letter = '!'; letter <= '~'; letter++) {
                compareVerdict(head + letter + text.substring(at));
                if (at < text.length()) {
                    compareVerdict(head + letter + text.substring(at + 1));
                }
            }
            if (at < text.length()) {
                compareVerdict(head + text.substring(at + 1));
            }
        }
    }

    private static void compareAllNeighbours() {
        String[] texts = {"{}", "A{}{A;}", "A{B;}B{}{A;B;}", "D{!1;}{a=1+2*b;D;}", "{[1]=-2;![a];}", "{?a<b{!1;}{!2;}?a=b{}}",
            "{#3{#b<9{!(a);}}}", "{#a+1<10{a=a-(b/2);}}", "{!-----1;!(((((a)))));}", "{#1{#1{#1{#1{#1{a=1;}}}}}}", "{#99{#99{a=1;}}}",
            "A{?a{B;}{C;}}B{C;}C{}{#2{A;}}", "{[[1]]=[2]=[3];!999;#099{}}"};
        for (String text : texts) {
            compareNeighbours(text);
        }
    }

    public static void main(String[] args) {
        compareAllNeighbours();
        Random random = new Random(20261115);
        Maker few = new Maker(1, 4);
        Maker many = new Maker(2, 100);
        for (int n = 0; n < TEXTS; n++) {
            Maker maker = random.nextInt(4) > 0 ? few : many;
            String text = maker.program(10 + random.nextInt(180));
            if (random.nextInt(4) == 0) {
                text = maker.spoiled(text);
            }
            if (text.length() <= 200) {
                compare(text, random);
            }
        }
        System.out.println("OracleTest: " + programs + " programs, " + noPrograms + " of none, " + refused
                + " refused; runs to END and to TRAP 1, 2, 3: " + Arrays.toString(runs));
        Check.due("there are many of each", Math.min(Math.min(programs, noPrograms), refused) > 1000, true);
        Check.finish("OracleTest");
    }
}
