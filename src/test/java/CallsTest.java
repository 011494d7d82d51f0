import java.util.ArrayList;
import java.util.List;

/** compile, set, get, run, latest and output: promise 5 and 10 to 14, and what holds for all calls. */
public final class CallsTest {
    private static final int[] NO_PLACES = {Check.LOWEST, -14, -2, -1, 14, 15, 100, 1000, Check.HIGHEST};
    private static final String RING = "A{A;}{!3;}";
    private static final String TOO_LONG = "{#99{#99{#9{}}}}";
    private static final String NO_PROGRAM = "{!3}";

    private static void compileEmptiesTheText() {
        Subject x = Check.typed("{!7;}");
        Check.due("length ahead of it", x.length(), 5);
        Check.dueText("compile", Check.answerOf(x::compile), "3");
        Check.due("length behind it", x.length(), 0);
        Check.dueThrow("compile again", Check.NO_TEXT_OF_A_PROGRAM, x::compile);
        Check.due("the program is still there", x.code(0, 1), 7);
        Check.due("type", x.type(Check.pack("{}")), true);
        Check.dueText("compile what was typed then", Check.answerOf(x::compile), "1");
    }

    private static void theTextStaysIfItThrows() {
        String[] refused = {NO_PROGRAM, RING, TOO_LONG};
        for (String text : refused) {
            Subject x = Check.typed(text);
            String first = Check.answerOf(x::compile);
            Check.due("compile throws", Check.isNumber(first), false);
            Check.due("length", x.length(), text.length());
            Check.dueText("compile again", Check.answerOf(x::compile), first);
            Check.due("length then", x.length(), text.length());
        }
        Subject y = Check.typed("{!3;");
        Check.dueThrow("compile half a text", Check.NO_TEXT_OF_A_PROGRAM, y::compile);
        Check.due("type the rest", y.type('}'), true);
        Check.dueText("compile the whole", Check.answerOf(y::compile), "3");
    }

    private static void theProgramStaysIfItThrows() {
        String[] refused = {NO_PROGRAM, RING, TOO_LONG, "A{!1;}{#99{#99{#9{}}}}", "{!1;}}"};
        for (String text : refused) {
            Subject x = Check.with("A{!1;}{A;!2;}");
            Check.due("run", x.run(), 0);
            Check.due("compile throws", Check.isNumber(Check.compiled(x, text)), false);
            Check.due("the code", x.code(1, 1), 2);
            Check.due("its end", x.code(7, 0), -1);
            Check.due("the time", x.time(), 21);
            Check.due("the depth", x.depth(), 2);
            Check.due("the procedure", x.procedure(0, 0), 4);
            Check.due("the cycles", x.latest(0), 21);
            Check.due("the count", x.latest(3), 2);
            Check.due("the output", x.output(1), 2);
            Check.dueRun("it runs", x, 0, 21, 2, 3, 2);
        }
    }

    private static void thisIsTheProgramFromNowOn() {
        Subject x = Check.with("A{!1;}{A;!2;}");
        x.set(3, 33);
        Check.due("run", x.run(), 0);
        Check.dueText("compile another", Check.compiled(x, "B{!3;}{!d;}"), "6");
        Check.due("its code", x.code(0, 1), 3);
        Check.due("its time", x.time(), 8);
        Check.due("its depth", x.depth(), 1);
        Check.due("no procedure of the other", x.procedure(0, 0), -1);
        Check.due("its procedure", x.procedure(1, 0), 3);
        Check.due("run of it", x.run(), 0);
        Check.due("its output", x.output(0), 33);
    }

    private static void noRunOfItWasMade() {
        String[] programs = {"{!1;}", "{!1/0;}", "{}"};
        for (String text : programs) {
            Subject x = Check.with(text);
            x.run();
            Check.due("latest behind a run is there", x.latest(0) >= 0, true);
            Check.due("compile it again", Check.isNumber(Check.compiled(x, text)), true);
            for (int w = 0; w < 4; w++) {
                Check.due("latest(" + w + ")", x.latest(w), -1);
            }
            Check.dueThrow("output(0)", Check.NO_SUCH, () -> x.output(0));
        }
    }

    private static void placesStayBehindCompile() {
        Subject x = new Subject();
        for (int i = 0; i < 14; i++) {
            x.set(i, 1000 - i);
        }
        Check.due("compile", Check.isNumber(Check.compiled(x, "{a=1;[7]=2;}")), true);
        for (int i = 0; i < 14; i++) {
            Check.due("get(" + i + ")", x.get(i), 1000 - i);
        }
    }

    private static void howManyInstructions() {
        String[] texts = {"{}", "1", "A{}{}", "2", "D{}C{}B{}A{}{}", "5", "A{}{A;A;}", "4", "{a=f;}", "3", "{a=b<c;}", "5", "{!a--b;}", "6",
            "{!-a*-b/-c-d+e;}", "14", "{[[1]]=[2];}", "6", "{?a{}}", "3", "{?a{}{}}", "4", "{?a<b{!1;}{!2;}}", "10", "{#0{}}", "4",
            "{#a<99{}}", "5", "{#-1<5{}}", "6", "{a=" + "b+".repeat(97) + "b;}", "197", "{" + "!1;".repeat(66) + "}", "133"};
        for (int i = 0; i < texts.length; i += 2) {
            Check.dueText("compile " + texts[i], Check.compiled(texts[i]), texts[i + 1]);
        }
    }

    private static void setOfEachPlace() {
        Subject x = new Subject();
        for (int i = 0; i < 14; i++) {
            Check.due("set(" + i + ")", x.set(i, 1000 - i), true);
        }
        for (int i = 0; i < 14; i++) {
            Check.due("get(" + i + ")", x.get(i), 1000 - i);
        }
        int[] values = {Check.LOWEST, -1, 0, 1, Check.HIGHEST};
        for (int v : values) {
            Check.due("set(0, " + v + ")", x.set(0, v), true);
            Check.due("set(13, " + v + ")", x.set(13, v), true);
            Check.due("get(0)", x.get(0), v);
            Check.due("get(13)", x.get(13), v);
        }
        Check.due("the neighbour of 0", x.get(1), 999);
        Check.due("the neighbour of 13", x.get(12), 988);
    }

    private static void setOfNoneSuch() {
        Subject x = new Subject();
        for (int i = 0; i < 14; i++) {
            x.set(i, 70 + i);
        }
        for (int i : NO_PLACES) {
            Check.due("set(" + i + ")", x.set(i, 5), false);
            for (int place = 0; place < 14; place++) {
                Check.due("get(" + place + ")", x.get(place), 70 + place);
            }
        }
    }

    private static void getOfNoneSuch() {
        Subject x = new Subject();
        for (int i : NO_PLACES) {
            Check.dueThrow("get(" + i + ")", Check.NO_SUCH, () -> x.get(i));
        }
        Check.due("get(0)", x.get(0), 0);
        Check.due("get(13)", x.get(13), 0);
    }

    private static void placesStayAsTheRunLeavesThem() {
        Subject x = Check.with("{a=a+1;#a<9{!a;}?a<2{!77;}{!88;}}");
        Check.dueRun("first", x, 0, 6 + 4 + 11 + 3 + 4 + 1 + 7 + 2, 2, 19, 2);
        Check.due("first output", x.output(0), 1);
        Check.due("second output", x.output(1), 77);
        Check.dueRun("second", x, 0, 6 + 4 + 22 + 3 + 4 + 3 + 7, 2, 19, 3);
        Check.due("a goes on", x.get(0), 2);
        Check.due("third output", x.output(2), 88);
        x.set(0, 9);
        Check.dueRun("trap", x, 3, 6 + 4, 2, 5, 0);
        Check.due("a stays as the run left it", x.get(0), 10);
        Check.dueThrow("no output", Check.NO_SUCH, () -> x.output(0));
        x.set(0, -1);
        Check.dueRun("behind a trap", x, 0, 6 + 4 + 3 + 4 + 1 + 7 + 2, 2, 19, 1);
    }

    private static void noRunWithoutAProgram() {
        String[] texts = {"", "{!1;}", NO_PROGRAM, RING, TOO_LONG};
        for (String text : texts) {
            Subject x = Check.typed(text);
            x.set(2, 5);
            Check.dueThrow("run()", Check.NO_PROGRAM, x::run);
            Check.due("length", x.length(), text.length());
            Check.due("get(2)", x.get(2), 5);
            Check.due("latest(0)", x.latest(0), -1);
            if (text.length() > 5) {
                Check.due("compile throws", Check.isNumber(Check.answerOf(x::compile)), false);
                Check.dueThrow("run() behind it", Check.NO_PROGRAM, x::run);
            }
        }
    }

    private static void latestOfOtherW() {
        Subject x = Check.with("{!1;}");
        int[] others = {Check.LOWEST, -2, -1, 4, 5, 100, Check.HIGHEST};
        for (int w : others) {
            Check.due("latest(" + w + ") ahead of a run", x.latest(w), -1);
        }
        Check.dueRun("run", x, 0, 7, 1, 2, 1);
        for (int w : others) {
            Check.due("latest(" + w + ") behind a run", x.latest(w), -1);
        }
    }

    private static void latestOfTheShortestRun() {
        Subject x = Check.with("{}");
        for (int w = 0; w < 4; w++) {
            Check.due("latest(" + w + ") ahead of it", x.latest(w), -1);
        }
        Check.dueRun("{}", x, 0, 0, 0, 0, 0);
        Subject y = Check.with("{#a<0{}}");
        y.set(0, 1);
        Check.dueRun("a trap", y, 3, 4, 1, 1, 0);
    }

    private static void latestIsOfTheLatest() {
        Subject x = Check.with("{#a<50{!a;}!b/c;}");
        x.set(0, 40);
        x.set(2, 1);
        Check.dueRun("a long run", x, 0, 4 + 40 * (3 + 8) + 3 + 4 + 20 + 6, 2, 10, 41);
        Check.due("output(31)", x.output(31), 40);
        x.set(0, 0);
        Check.dueRun("a short run", x, 0, 4 + 3 + 4 + 20 + 6, 2, 10, 1);
        Check.due("output(0)", x.output(0), 0);
        Check.dueThrow("output(1)", Check.NO_SUCH, () -> x.output(1));
        x.set(2, 0);
        Check.dueRun("a run to a trap", x, 1, 4 + 3 + 4 + 20, 2, 8, 0);
        Check.dueThrow("output(0) of it", Check.NO_SUCH, () -> x.output(0));
    }

    private static void latestWordsAreOfTheLatest() {
        Subject x = Check.with("A{?a{!1+(2+(3+4));}}{A;}");
        x.set(0, 1);
        Check.dueRun("a deep run", x, 0, 4 + 3 + 2 + 1 + 13, 5, 1, 1);
        x.set(0, 0);
        Check.dueRun("a flat run", x, 0, 4 + 3 + 2 + 3, 2, 1, 0);
        Check.dueText("compile another", Check.compiled(x, "{}"), "1");
        Check.dueRun("an empty run", x, 0, 0, 0, 0, 0);
    }

    private static void theFirst32() {
        for (int count = 0; count <= 66; count++) {
            Subject x = Check.with("{#" + count + "{!a*a;a=a+1;}}");
            Check.due("run", x.run(), 0);
            Check.due("count", x.latest(3), count);
            int told = Math.min(count, 32);
            for (int k = 0; k < told; k++) {
                Check.due("output(" + k + ") of " + count, x.output(k), k * k);
            }
            int[] none = {Check.LOWEST, -1, told, told + 1, Math.max(count, 32), 33, 64, Check.HIGHEST};
            for (int k : none) {
                Check.dueThrow("output(" + k + ") of " + count, Check.NO_SUCH, () -> x.output(k));
            }
        }
    }

    private static void noOutputBehindCompile() {
        Subject x = Check.with("{!5;}");
        Check.dueThrow("output(0) ahead of a run", Check.NO_SUCH, () -> x.output(0));
        x.run();
        Check.due("output(0) behind it", x.output(0), 5);
        Check.due("compile the same", Check.isNumber(Check.compiled(x, "{!5;}")), true);
        Check.dueThrow("output(0) behind compile()", Check.NO_SUCH, () -> x.output(0));
        Check.dueThrow("output(-1) behind compile()", Check.NO_SUCH, () -> x.output(-1));
        x.run();
        Check.due("output(0) behind its run", x.output(0), 5);
    }

    /** A state that an object can be in: how to come to it. */
    private interface State {
        Subject make();
    }

    private static Subject ran(String program, String text) {
        Subject x = Check.with(program);
        x.set(1, 11);
        x.set(13, 7);
        x.run();
        Check.typeAll(x, text);
        return x;
    }

    private static List<State> states() {
        List<State> all = new ArrayList<>();
        String full = "{!" + "b+".repeat(97) + "b;}";
        all.add(Subject::new);
        String[] texts = {"{!1;", "{!1;}", NO_PROGRAM, RING, TOO_LONG, full, "a".repeat(199), "a".repeat(200)};
        for (String text : texts) {
            all.add(() -> Check.typed(text));
            all.add(() -> ran("A{!b;}{a=3;A;[2]=4;}", text));
        }
        all.add(() -> Check.with("B{!1;}{B;}"));
        all.add(() -> ran("{!b;b=b-1;!b/0;}", "{"));
        all.add(() -> ran("{#40{!b;b=b+1;}}", ""));
        return all;
    }

    private static boolean isRefused(String answer) {
        return answer.equals("-1") || !Check.isNumber(answer);
    }

    /** All calls that can be refused in some state: those that are must change nothing. */
    private static List<Check.Call> callsThatMayBeRefused(Subject x) {
        List<Check.Call> all = new ArrayList<>();
        long[] parts = {32, 127, -1, 0x7B20L, 0x207BL, 0x7D7D7D7D7D7D7D7DL};
        for (long part : parts) {
            all.add(() -> x.type(part) ? 1 : -1);
        }
        for (int i : NO_PLACES) {
            all.add(() -> x.set(i, 99) ? 1 : -1);
            all.add(() -> x.get(i));
            all.add(() -> x.code(i, 0));
            all.add(() -> x.code(0, i));
            all.add(() -> x.procedure(i, 0));
            all.add(() -> x.procedure(1, i));
            all.add(() -> x.latest(i));
            all.add(() -> x.output(i));
        }
        all.add(x::compile);
        all.add(x::run);
        all.add(x::time);
        all.add(x::depth);
        all.add(() -> x.code(0, 0));
        all.add(() -> x.procedure(0, 0));
        all.add(() -> x.procedure(3, 1));
        all.add(() -> x.latest(0));
        all.add(() -> x.output(0));
        all.add(() -> x.output(32));
        return all;
    }

    /** All that an object tells, at last of the text, of which compile alone tells. */
    private static List<String> told(Subject x) {
        List<String> all = new ArrayList<>();
        tellState(x, all);
        all.add(Check.answerOf(x::run));
        tellState(x, all);
        all.add(Check.answerOf(x::compile));
        all.add(Check.answerOf(() -> x.type('}') ? 1 : 0));
        all.add(Check.answerOf(x::compile));
        tellState(x, all);
        return all;
    }

    private static void tellState(Subject x, List<String> all) {
        all.add(Check.answerOf(x::length));
        all.add(Check.answerOf(x::time));
        all.add(Check.answerOf(x::depth));
        for (int k = 0; k < 14; k++) {
            int n = k;
            all.add(Check.answerOf(() -> x.get(n)));
            all.add(Check.answerOf(() -> x.code(n, 0)));
            all.add(Check.answerOf(() -> x.code(n, 1)));
            all.add(Check.answerOf(() -> x.procedure(n % 4, n / 4)));
            all.add(Check.answerOf(() -> x.latest(n)));
            all.add(Check.answerOf(() -> x.output(n)));
        }
        all.add(Check.answerOf(() -> x.output(31)));
    }

    private static void refusedCallsChangeNothing() {
        int refused = 0;
        for (State state : states()) {
            String want = told(state.make()).toString();
            int calls = callsThatMayBeRefused(new Subject()).size();
            for (int n = 0; n < calls; n++) {
                Subject x = state.make();
                if (isRefused(Check.answerOf(callsThatMayBeRefused(x).get(n)))) {
                    refused++;
                    Check.dueText("what is told behind refused call " + n, told(x).toString(), want);
                }
            }
        }
        Check.due("calls that were refused", refused > 1000, true);
    }

    private static void refusedCallsOneAfterAnother() {
        for (State state : states()) {
            String want = told(state.make()).toString();
            Subject x = state.make();
            int[] none = {Check.LOWEST, -1, 32, 200, Check.HIGHEST};
            for (int i : none) {
                Check.due("type", x.type(31), false);
                Check.due("set", x.set(i, 1), false);
                Check.dueThrow("get", Check.NO_SUCH, () -> x.get(i));
                Check.dueThrow("output", Check.NO_SUCH, () -> x.output(i));
                Check.due("latest", x.latest(i), -1);
                Check.answerOf(() -> x.code(i, 0));
                Check.answerOf(() -> x.procedure(i, 0));
            }
            Check.dueText("what is told then", told(x).toString(), want);
        }
    }

    /** Both of the dearest calls as often as they can be made. */
    private static void upTo512Calls() {
        String dear = "{#20{#99{!1;}}" + "!1;".repeat(6) + "!b;}";
        Subject x = Check.with(dear);
        for (int n = 0; x.callsLeft() > 5; n++) {
            x.set(1, n);
            Check.due("run " + n, x.run(), 0);
        }
        Check.due("cycles of the last", x.latest(0), 19944 + 6 * 7 + 8);
        Check.due("outputs of the last", x.latest(3), 1987);
        Subject y = Check.typed("{!------1;}");
        while (y.callsLeft() > 4) {
            Check.dueThrow("compile", Check.NO_TEXT_OF_A_PROGRAM, y::compile);
        }
        y.wipe();
        Check.due("type", Check.typeAll(y, "{!1;}"), true);
        Check.dueText("call 511", Check.answerOf(y::compile), "3");
        Check.dueText("call 512", Check.answerOf(y::run), "0");
    }

    public static void main(String[] args) {
        Check.sentence("The text is compiled, and is empty then", CallsTest::compileEmptiesTheText);
        Check.sentence("it stays if it throws", CallsTest::theTextStaysIfItThrows);
        Check.sentence("A call that throws changes nothing (compile)", CallsTest::theProgramStaysIfItThrows);
        Check.sentence("this is the program from now on", CallsTest::thisIsTheProgramFromNowOn);
        Check.sentence("and no run of it was made", CallsTest::noRunOfItWasMade);
        Check.sentence("Place i holds v from now on (behind compile, too)", CallsTest::placesStayBehindCompile);
        Check.sentence("How many instructions it has", CallsTest::howManyInstructions);
        Check.sentence("Place i (0 .. 13) holds v from now on: true", CallsTest::setOfEachPlace);
        Check.sentence("false if there is none such", CallsTest::setOfNoneSuch);
        Check.sentence("IndexOutOfBoundsException if there is none such (get)", CallsTest::getOfNoneSuch);
        Check.sentence("from the places as they are (and stay as the run leaves them)", CallsTest::placesStayAsTheRunLeavesThem);
        Check.sentence("IllegalStateException if there is no program (run)", CallsTest::noRunWithoutAProgram);
        Check.sentence("NONE for any other w", CallsTest::latestOfOtherW);
        Check.sentence("NONE if there was none of this program", CallsTest::latestOfTheShortestRun);
        Check.sentence("About the latest run", CallsTest::latestIsOfTheLatest);
        Check.sentence("About the latest run: how many words were on the stack at most", CallsTest::latestWordsAreOfTheLatest);
        Check.sentence("of the first 32", CallsTest::theFirst32);
        Check.sentence("also behind compile(), ahead of a run", CallsTest::noOutputBehindCompile);
        Check.sentence("A call that answers false or NONE, or throws, changes nothing", CallsTest::refusedCallsChangeNothing);
        Check.sentence("A call that answers false or NONE, or throws, changes nothing (many)", CallsTest::refusedCallsOneAfterAnother);
        Check.sentence("An object is used for at most 512 calls", CallsTest::upTo512Calls);
        Check.finish("CallsTest");
    }
}
