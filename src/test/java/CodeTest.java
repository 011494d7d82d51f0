import java.util.List;

/** The code, TIME, DEPTH, SHORT, and promises 6 to 9 that tell of them, sentence by sentence. */
public final class CodeTest {
    private static final List<String> NAMES = List.of("PUSH", "GET", "PUT", "FETCH", "KEEP", "ADD", "SUB", "MUL", "DIV", "LESS",
            "SAME", "NEG", "OUT", "ZERO", "JUMP", "LOOP", "LIMIT", "CALL", "BACK", "END");
    private static final int[] OTHERS = {Check.LOWEST, Check.LOWEST + 1, -1000, -2, -1, 1000, Check.HIGHEST - 1, Check.HIGHEST};

    // Inner loop 1 + 99 (1 + 7 + 2) + 3 = 994, outer one 1 + 20 (1 + 994 + 2) + 3.
    private static final String LOOPS_OF_19944 = "#20{#99{!1;}}";

    /** The code is written with a blank between all names and arguments; an argument of 0 may be left out. */
    private static void dueCode(String text, String code) {
        Subject x = Check.with(text);
        int k = -1;
        String[] words = code.split(" ");
        for (int i = 0; i < words.length; i++) {
            int number = NAMES.indexOf(words[i]);
            if (number >= 0) {
                k++;
                Check.due(text + " code(" + k + ", 0)", x.code(k, 0), number);
                boolean argued = i + 1 < words.length && !NAMES.contains(words[i + 1]);
                Check.due(text + " code(" + k + ", 1)", x.code(k, 1), argued ? Integer.parseInt(words[i + 1]) : 0);
            }
        }
        Check.due(text + " code behind it", x.code(k + 1, 0), -1);
    }

    private static void orderOfTheCode() {
        dueCode("{}", "END");
        dueCode("A{}{}", "END BACK");
        dueCode("D{!4;}C{!3;}B{!2;}A{!1;}{!0;}", "PUSH 0 OUT END PUSH 1 OUT BACK PUSH 2 OUT BACK PUSH 3 OUT BACK PUSH 4 OUT BACK");
        dueCode("C{!3;}B{!2;}{!0;}", "PUSH 0 OUT END PUSH 2 OUT BACK PUSH 3 OUT BACK");
        dueCode("A{}B{}C{}D{}{}", "END BACK BACK BACK BACK");
    }

    private static void codeOfUnits() {
        dueCode("{!0;!999;!007;}", "PUSH 0 OUT PUSH 999 OUT PUSH 7 OUT END");
        dueCode("{!a;!f;}", "GET 0 OUT GET 5 OUT END");
        dueCode("{![a];![[1]];}", "GET 0 FETCH OUT PUSH 1 FETCH FETCH OUT END");
        dueCode("{!(a);!((1));}", "GET 0 OUT PUSH 1 OUT END");
        dueCode("{!-a;!--1;!-[2];}", "GET 0 NEG OUT PUSH 1 NEG NEG OUT PUSH 2 FETCH NEG OUT END");
    }

    private static void codeOfOperators() {
        dueCode("{!a+b;!a-b;!a*b;!a/b;!a<b;!a=b;}", "GET 0 GET 1 ADD OUT GET 0 GET 1 SUB OUT GET 0 GET 1 MUL OUT "
                + "GET 0 GET 1 DIV OUT GET 0 GET 1 LESS OUT GET 0 GET 1 SAME OUT END");
        dueCode("{!a-b-c;}", "GET 0 GET 1 SUB GET 2 SUB OUT END");
        dueCode("{!a-(b-c);}", "GET 0 GET 1 GET 2 SUB SUB OUT END");
        dueCode("{!a/b*c;}", "GET 0 GET 1 DIV GET 2 MUL OUT END");
        dueCode("{!a+b*c;}", "GET 0 GET 1 GET 2 MUL ADD OUT END");
        dueCode("{!a*b+c;}", "GET 0 GET 1 MUL GET 2 ADD OUT END");
        dueCode("{!(a+b)*c;}", "GET 0 GET 1 ADD GET 2 MUL OUT END");
        dueCode("{!-a*b;}", "GET 0 NEG GET 1 MUL OUT END");
        dueCode("{!a--b;}", "GET 0 GET 1 NEG SUB OUT END");
        dueCode("{!a+b<c*d;}", "GET 0 GET 1 ADD GET 2 GET 3 MUL LESS OUT END");
        dueCode("{!a*b=c-d;}", "GET 0 GET 1 MUL GET 2 GET 3 SUB SAME OUT END");
    }

    private static void codeOfAssignments() {
        dueCode("{a=1;b=1;c=1;d=1;e=1;f=1;}", "PUSH 1 PUT 0 PUSH 1 PUT 1 PUSH 1 PUT 2 PUSH 1 PUT 3 PUSH 1 PUT 4 PUSH 1 PUT 5 END");
        dueCode("{e=f=1;}", "GET 5 PUSH 1 SAME PUT 4 END");
        dueCode("{[b]=c;}", "GET 1 GET 2 KEEP END");
        dueCode("{[[1]]=[2];}", "PUSH 1 FETCH PUSH 2 FETCH KEEP END");
        dueCode("{[a=b]=c=d;}", "GET 0 GET 1 SAME GET 2 GET 3 SAME KEEP END");
    }

    private static void codeOfQuestions() {
        dueCode("{?a{}}", "GET 0 ZERO 2 END");
        dueCode("{?a{!1;}!2;}", "GET 0 ZERO 4 PUSH 1 OUT PUSH 2 OUT END");
        dueCode("{?a{}{}}", "GET 0 ZERO 3 JUMP 3 END");
        dueCode("{?a{!1;}{!2;}}", "GET 0 ZERO 5 PUSH 1 OUT JUMP 7 PUSH 2 OUT END");
        dueCode("{?a{}{!2;}}", "GET 0 ZERO 3 JUMP 5 PUSH 2 OUT END");
        dueCode("{?a{!1;}{}}", "GET 0 ZERO 5 PUSH 1 OUT JUMP 5 END");
        dueCode("{?a{?b{}{}}}", "GET 0 ZERO 5 GET 1 ZERO 5 JUMP 5 END");
        dueCode("{?a{?b{}}{?c{}}}", "GET 0 ZERO 5 GET 1 ZERO 4 JUMP 7 GET 2 ZERO 7 END");
    }

    private static void codeOfLoops() {
        dueCode("{#3{!a;}}", "PUSH 3 LOOP 5 GET 0 OUT JUMP 1 END");
        dueCode("{#0{}}", "PUSH 0 LOOP 3 JUMP 1 END");
        dueCode("{#99{}}", "PUSH 99 LOOP 3 JUMP 1 END");
        dueCode("{#a<3{}}", "GET 0 LIMIT 3 LOOP 4 JUMP 2 END");
        dueCode("{#7<0{}}", "PUSH 7 LIMIT 0 LOOP 4 JUMP 2 END");
        dueCode("{#1{#2{}}}", "PUSH 1 LOOP 6 PUSH 2 LOOP 5 JUMP 3 JUMP 1 END");
        dueCode("{#a+1<9{b=1;}!b;}", "GET 0 PUSH 1 ADD LIMIT 9 LOOP 8 PUSH 1 PUT 1 JUMP 4 GET 1 OUT END");
    }

    private static void codeOfCalls() {
        dueCode("A{}{A;}", "CALL 2 END BACK");
        dueCode("C{A;}A{!1;}{C;A;C;}", "CALL 7 CALL 4 CALL 7 END PUSH 1 OUT BACK CALL 4 BACK");
        dueCode("A{B;}B{C;}C{D;}D{}{A;}", "CALL 2 END CALL 4 BACK CALL 6 BACK CALL 8 BACK BACK");
    }

    private static void codeOfNoneSuch() {
        Subject x = Check.with("A{!5;}{A;}");
        Check.due("code(0, 0)", x.code(0, 0), 17);
        Check.due("code(4, 0)", x.code(4, 0), 18);
        int[] ks = {-1, 5, 6, 7, 8, 199, 200, 201};
        for (int k : ks) {
            for (int w = -1; w <= 2; w++) {
                Check.due("code(" + k + ", " + w + ")", x.code(k, w), -1);
            }
        }
        for (int other : OTHERS) {
            Check.due("code(" + other + ", 0)", x.code(other, 0), -1);
            Check.due("code(" + other + ", 1)", x.code(other, 1), -1);
            Check.due("code(0, " + other + ")", x.code(0, other), -1);
        }
        for (int k = 0; k < 5; k++) {
            Check.due("code(" + k + ", -1)", x.code(k, -1), -1);
            Check.due("code(" + k + ", 2)", x.code(k, 2), -1);
        }
    }

    private static void noCodeOfALongerOneBefore() {
        Subject x = Check.with("{" + "!9;".repeat(60) + "}");
        Check.due("the last", x.code(120, 0), 19);
        Check.dueText("compile a short one", Check.compiled(x, "{!8;}"), "3");
        for (int k = 3; k <= 121; k++) {
            Check.due("code(" + k + ", 0)", x.code(k, 0), -1);
        }
        Check.due("code(0, 1)", x.code(0, 1), 8);
    }

    private static void toldOnlyOfAProgram() {
        String[] texts = {"", "{!1;}", "{!1;"};
        for (String text : texts) {
            Subject x = Check.typed(text);
            Check.dueThrow("time()", Check.NO_PROGRAM, x::time);
            Check.dueThrow("depth()", Check.NO_PROGRAM, x::depth);
            for (int k = -1; k <= 2; k++) {
                for (int w = -1; w <= 3; w++) {
                    int first = k;
                    int second = w;
                    Check.dueThrow("code(" + k + ", " + w + ")", Check.NO_PROGRAM, () -> x.code(first, second));
                    Check.dueThrow("procedure(" + k + ", " + w + ")", Check.NO_PROGRAM, () -> x.procedure(first, second));
                }
            }
        }
    }

    private static void dueBounds(String text, int time, int depth) {
        Subject x = Check.with(text);
        Check.due(text + " time()", x.time(), time);
        Check.due(text + " depth()", x.depth(), depth);
    }

    /** For programs that have but one way. */
    private static void dueRunOfBounds(String text, int time, int depth) {
        dueBounds(text, time, depth);
        Subject x = Check.with(text);
        Check.due(text + " run()", x.run(), 0);
        Check.due(text + " latest(0)", x.latest(0), time);
        Check.due(text + " latest(1)", x.latest(1), depth);
    }

    private static void boundsOfOneWay() {
        String[] operators = {"+", "-", "*", "/", "<", "="};
        int[] costs = {1, 1, 5, 20, 1, 1};
        for (int i = 0; i < operators.length; i++) {
            dueRunOfBounds("{a=7" + operators[i] + "3;}", 2 + costs[i] + 2, 2);
            dueRunOfBounds("{a=1+(7" + operators[i] + "3)+(1+1);}", 1 + 2 + costs[i] + 1 + 3 + 1 + 2, 3);
            dueRunOfBounds("{a=(7" + operators[i] + "3)+(1+(1+1));}", 2 + costs[i] + 5 + 1 + 2, 4);
            dueRunOfBounds("{#2{a=7" + operators[i] + "3;}!1+(1+1);}", 1 + 2 * (3 + 2 + costs[i] + 2) + 3 + 11, 3);
        }
        dueRunOfBounds("{}", 0, 0);
        dueRunOfBounds("{a=1;a=1;a=1+1;}", 3 + 3 + 5, 2);
        dueRunOfBounds("{a=b;a=b;a=b+b;}", 4 + 4 + 7, 2);
        dueRunOfBounds("{!1;!1;!1+1;}", 7 + 7 + 9, 2);
        dueRunOfBounds("{a=1+-[1]+(1+1);}", 1 + 1 + 4 + 1 + 1 + 3 + 1 + 2, 3);
        dueRunOfBounds("{[1]=2;[1]=2;[1]=2+3;}", 6 + 6 + 8, 3);
        dueRunOfBounds("{?0{}?0{}{}?0{}!1+1;}", 4 + 4 + 4 + 9, 2);
        dueRunOfBounds("{?1{!1;}{}?1{!1;}{}!1+1;}", 11 + 11 + 9, 2);
        dueRunOfBounds("{#0{}#0<0{}#1{}!1+1;}", 4 + 6 + 7 + 9, 2);
        dueRunOfBounds("A{}{A;A;!1+1;}", 7 + 7 + 9, 2);
        dueRunOfBounds("{!1+(2+(3+(4+(5+6))));}", 6 + 5 + 6, 6);
        dueRunOfBounds("A{B;!1;B;}B{!2;C;}C{a=a+1;}{#2{A;}!a;}", 1 + 2 * (3 + 7 + 7 + 2 * (7 + 7 + 7 + 6)) + 3 + 8, 6);
    }

    private static void whateverAQuestionAsks() {
        // A ? that goes: 3; one that does not: 1, its block, and 2 for a JUMP.
        dueBounds("{?a{}}", 5, 1);
        dueBounds("{?0{}}", 4, 1);
        dueBounds("{?1{}}", 4, 1);
        dueBounds("{?a{b=1;}}", 2 + 1 + 3, 1);
        dueBounds("{?0{b=1;}}", 1 + 1 + 3, 1);
        dueBounds("{?a{}{}}", 5, 1);
        dueBounds("{?a{}{b=1;}}", 2 + 3 + 3, 1);
        dueBounds("{?1{}{b=1;}}", 1 + 3 + 3, 1);
        dueBounds("{?a{b=1;}{}}", 2 + 1 + 3 + 2, 1);
        dueBounds("{?a{b=1;}{b=1;}}", 2 + 3 + 3, 1);
        dueBounds("{?a{b=c;}{b=1+1;}}", 2 + 3 + 5, 2);
        dueBounds("{?a{b=1+1;}{b=c;}}", 2 + 1 + 5 + 2, 2);
        dueBounds("{?0{!1+(1+1);}{!1;}}", 1 + 1 + 11 + 2, 3);
        dueBounds("{?a{b=1/1;}{b=1+(1+1);}}", 2 + 1 + 24 + 2, 3);
        dueBounds("{?a{?b{}{}}}", 2 + 1 + 5, 1);
        dueBounds("{?a{?b{!1;}}c=1;}", 2 + 1 + 2 + 1 + 7 + 3, 1);
        dueBounds("{?a{#2{}}{}}", 2 + 1 + 10 + 2, 1);
    }

    private static void asOftenAsPushSays() {
        for (int n = 0; n <= 99; n++) {
            dueBounds("{#" + n + "{!1+1;}}", 1 + n * (1 + 9 + 2) + 3, n == 0 ? 1 : 3);
        }
        dueBounds("{#3{#2{!1;}}}", 1 + 3 * (3 + 1 + 2 * 10 + 3) + 3, 3);
        dueBounds("{#3{?a{!1;}}}", 1 + 3 * (3 + 2 + 1 + 7) + 3, 2);
    }

    private static void asOftenAsLimitSays() {
        for (int n = 0; n <= 99; n++) {
            dueBounds("{#a<" + n + "{!1+1;}}", 2 + 2 + n * (1 + 9 + 2) + 3, n == 0 ? 1 : 3);
        }
        dueBounds("{#9<4{!1;}}", 1 + 2 + 4 * 10 + 3, 2);
        dueBounds("{#2<4{!1;}}", 1 + 2 + 4 * 10 + 3, 2);
        dueBounds("{#1+(1+1)<1{}}", 5 + 2 + 3 + 3, 3);
    }

    private static void aLoopOf0HasNoRound() {
        dueBounds("{#0{}}", 4, 1);
        dueBounds("{#0{!1+(1+1);}}", 4, 1);
        dueBounds("{#a<0{!1+(1+1);}}", 2 + 2 + 3, 1);
        dueBounds("{#3{#0{!1;}}!1+1;}", 1 + 3 * (3 + 4) + 3 + 9, 2);
        dueBounds("{#0{?a{!1;}{#3{}}}#2{!1;}}", 4 + 1 + 2 * 10 + 3, 2);
        dueBounds("{#0{#99{#99{#99{#99{!1;}}}}}}", 4, 1);
        dueBounds("A{!1+1;}{#0{A;}}", 4, 1);
        dueBounds("{?a{#0{!1;}}{#0{!1;}}}", 2 + 1 + 4 + 2, 1);
    }

    private static void aCallCostsTheProcedureMore() {
        dueBounds("A{}{}", 0, 0);
        dueBounds("A{}{A;}", 4 + 3, 1);
        dueBounds("A{}{#3{A;}}", 1 + 3 * (3 + 7) + 3, 2);
        dueBounds("A{!1+1;}{!1+(1+1);A;}", 11 + 4 + 9 + 3, 3);
        dueBounds("A{!1+(1+1);}{!1+1;A;}", 9 + 4 + 11 + 3, 4);
        dueBounds("A{B;B;}B{C;C;}C{D;D;}D{}{A;A;}", 2 * (4 + 3 + 2 * (4 + 3 + 2 * (4 + 3 + 2 * 7))), 4);
        dueBounds("D{C;C;}C{B;B;}B{A;A;}A{}{D;D;}", 2 * (4 + 3 + 2 * (4 + 3 + 2 * (4 + 3 + 2 * 7))), 4);
        dueBounds("A{?a{!1;}{b=1+(1+1);}}{A;}", 4 + 2 + 3 + 7 + 3, 1 + 3);
    }

    /** What was compiled on the same object before, or refused there, has no part in it. */
    private static void numbersOfTheCodeAlone() {
        String deep = "{!1+(2+(3+(4+(5+6))));#9{#9{[1]=1+(2+(3+4));}}}";
        String[] others = {deep, "A" + deep + "B{A;!1+(2+(3+4));}{}", "A" + deep + deep, "A{A;}" + deep, deep + "}"};
        for (String other : others) {
            Subject x = new Subject();
            Check.compiled(x, other);
            Check.dueText("compile", Check.compiled(x, "A{!1;}B{!1;A;}C{!1;}D{C;}{!1;A;}"), "16");
            Check.due("time()", x.time(), 7 + 4 + 10);
            Check.due("depth()", x.depth(), 2);
            int[][] due = {{4, 10, 1}, {7, 7 + 4 + 10 + 3, 2}, {11, 10, 1}, {14, 4 + 10 + 3, 2}};
            for (int p = 0; p < 4; p++) {
                for (int w = 0; w < 3; w++) {
                    Check.due("procedure(" + p + ", " + w + ")", x.procedure(p, w), due[p][w]);
                }
            }
        }
    }

    private static void aProceduresOwnReturnIsNotCounted() {
        Subject x = Check.with("A{}B{A;}C{!1;}{C;}");
        Check.due("depth of an empty one", x.procedure(0, 2), 0);
        Check.due("time of an empty one", x.procedure(0, 1), 3);
        Check.due("depth of one that calls it", x.procedure(1, 2), 1);
        Check.due("time of one that calls it", x.procedure(1, 1), 4 + 3 + 3);
        Check.due("depth of one with a value", x.procedure(2, 2), 1);
        Check.due("depth of what calls that", x.depth(), 2);
    }

    private static void theMostInstructions() {
        String text = "{!-" + "b+".repeat(97) + "b;}";
        Subject x = Check.with(text);
        Check.due("time", x.time(), 98 * 2 + 97 + 1 + 6);
        Check.due("depth", x.depth(), 2);
        Check.due("the last but one", x.code(196, 0), 12);
        Check.due("the last", x.code(197, 0), 19);
        Check.due("behind it", x.code(198, 0), -1);
        x.set(1, 3);
        Check.dueRun("run", x, 0, 98 * 2 + 97 + 1 + 6, 2, 197, 1);
        Check.due("sum", x.output(0), 96 * 3);
    }

    private static void timeOfTheProgramIsAtMost20000() {
        Subject x = Check.with("{" + LOOPS_OF_19944 + "!1;".repeat(8) + "}");
        Check.due("time 20000", x.time(), 20000);
        Check.dueRun("a run of 20000", x, 0, 20000, 3, 24, 1988);
        Subject y = Check.with("{" + LOOPS_OF_19944 + "!1;".repeat(6) + "!-1;a=-1;}");
        Check.due("time 19998", y.time(), 19998);
        tooLong("{" + LOOPS_OF_19944 + "!1;".repeat(7) + "!-1;}");
        tooLong("{" + LOOPS_OF_19944 + "!1;".repeat(9) + "}");
        Subject limited = Check.with("{#a<20{#99{!1;}}" + "!1;".repeat(7) + "a=-1;}");
        Check.due("time of a LIMIT", limited.time(), 3 + 19944 + 7 * 7 + 4);
        tooLong("{#a<20{#99{!1;}}" + "!1;".repeat(8) + "}");
    }

    private static void tooLong(String text) {
        Subject x = new Subject();
        Check.dueText("compile " + text, Check.compiled(x, text), Check.NOT_PLAIN_OR_SHORT);
        Check.due("length of " + text, x.length(), text.length());
        Check.dueThrow("time of " + text, Check.NO_PROGRAM, x::time);
    }

    private static void timeOfEachProcedureToo() {
        for (int p = 0; p < 4; p++) {
            char name = (char) ('A' + p);
            String rest = (p == 0 ? "D" : "A") + "{!1;}";
            String most = name + "{" + LOOPS_OF_19944 + "!1;".repeat(7) + "a=-1;}";
            String more = name + "{" + LOOPS_OF_19944 + "!1;".repeat(7) + "a=--1;}";
            Subject x = Check.with(rest + most + "{}");
            Check.due("a procedure of 20000", x.procedure(p, 1), 20000);
            Check.due("time of what does not call it", x.time(), 0);
            tooLong(more + "{}");
            tooLong(rest + more + "{}");
            tooLong(more + rest + "{!1;}");
            tooLong(more + "{#0{" + name + ";}}");
            Subject y = Check.with(most + "{#0{" + name + ";}}");
            Check.due("time of a call that never is made", y.time(), 4);
        }
    }

    private static void timeWithACallIsAtMost20000() {
        String most = "A{" + LOOPS_OF_19944 + "!1;".repeat(7) + "}";
        Subject x = Check.with(most + "{A;}");
        Check.due("time of the procedure", x.procedure(0, 1), 19996);
        Check.due("time of its call", x.time(), 20000);
        Check.due("run", x.run(), 0);
        Check.due("cycles", x.latest(0), 20000);
        tooLong("A{" + LOOPS_OF_19944 + "!1;".repeat(6) + "!-1;}{A;}");
        tooLong(most + "{A;a=1;}");
        tooLong(most + "B{A;}{}");
        tooLong("B{A;}" + most + "{}");
        tooLong(most + "{A;A;}");
        tooLong(most + "{#2{A;}}");
        tooLong(most + "{?a{A;}}");
    }

    /** Each of these times would be 0 .. 20000, or below 0, if it were held in an int. */
    private static void longTimesDoNotWrap() {
        int[][] rounds = {{61, 81, 58, 70, 69}, {95, 72, 41, 89, 55}, {94, 45, 37, 93, 96}, {83, 88, 89, 66, 31}, {89, 46, 95, 62, 57},
            {82, 97, 82, 26, 82}, {99, 99, 99, 99, 50}, {99, 99, 99, 99, 99}};
        for (int[] n : rounds) {
            String open = "#" + n[0] + "{#" + n[1] + "{#" + n[2] + "{#" + n[3] + "{#" + n[4] + "{";
            tooLong("{" + open + "}}}}}}");
            tooLong("A{" + open + "}}}}}}{}");
            tooLong("A{" + open + "}}}}}}{A;}");
        }
    }

    private static void longTimesOfCallsDoNotWrap() {
        String procedure = "A{" + LOOPS_OF_19944 + "!1;".repeat(7) + "}";
        int[][] rounds = {{28, 79, 91, 16}, {71, 97, 53, 20}, {24, 21, 71, 6}, {53, 60, 53, 93}};
        for (int[] n : rounds) {
            tooLong(procedure + "{#" + n[0] + "{#" + n[1] + "{#" + n[2] + "{#" + n[3] + "{A;}}}}}");
        }
        String vast = "#99{#99{#99{#99{#99{";
        tooLong("A{" + vast + "B;}}}}}}B{" + vast + "C;}}}}}}C{" + vast + "D;}}}}}}D{" + vast + "}}}}}}{" + vast + "A;}}}}}}");
        tooLong("{" + vast + "!1/1*2/3/4/5/6/7/8/9;}}}}}}");
    }

    private static void procedures() {
        Subject x = Check.with("D{!1;A;}A{#2{!2+3;}}C{}{?a{D;}{C;}}");
        int[][] due = {
            {6, 1 + 2 * (3 + 9) + 3 + 3, 3},
            {-1, -1, -1},
            {14, 3, 0},
            {15, 7 + 4 + 31 + 3, 4},
        };
        for (int p = 0; p < 4; p++) {
            for (int w = 0; w < 3; w++) {
                Check.due("procedure(" + p + ", " + w + ")", x.procedure(p, w), due[p][w]);
            }
        }
        Check.due("time", x.time(), 2 + 1 + 4 + 45 + 2);
        Check.due("depth", x.depth(), 5);
    }

    private static void procedureOfNoneSuch() {
        Subject x = Check.with("A{!1;}B{!2;}C{!3;}D{!4;}{}");
        for (int w = -1; w <= 3; w++) {
            Check.due("procedure(-1, " + w + ")", x.procedure(-1, w), -1);
            Check.due("procedure(4, " + w + ")", x.procedure(4, w), -1);
            Check.due("procedure(5, " + w + ")", x.procedure(5, w), -1);
        }
        for (int other : OTHERS) {
            Check.due("procedure(" + other + ", 0)", x.procedure(other, 0), -1);
            Check.due("procedure(0, " + other + ")", x.procedure(0, other), -1);
        }
        for (int p = 0; p < 4; p++) {
            Check.due("procedure(" + p + ", -1)", x.procedure(p, -1), -1);
            Check.due("procedure(" + p + ", 0)", x.procedure(p, 0), 1 + 3 * p);
            Check.due("procedure(" + p + ", 1)", x.procedure(p, 1), 10);
            Check.due("procedure(" + p + ", 2)", x.procedure(p, 2), 1);
            Check.due("procedure(" + p + ", 3)", x.procedure(p, 3), -1);
        }
        for (int p = 0; p < 4; p++) {
            Subject one = Check.with((char) ('A' + p) + "{!1;}{}");
            for (int other = 0; other < 4; other++) {
                Check.due("the only one is " + p + ": procedure(" + other + ", 0)", one.procedure(other, 0), other == p ? 1 : -1);
                Check.due("the only one is " + p + ": procedure(" + other + ", 1)", one.procedure(other, 1), other == p ? 10 : -1);
                Check.due("the only one is " + p + ": procedure(" + other + ", 2)", one.procedure(other, 2), other == p ? 1 : -1);
            }
        }
    }

    public static void main(String[] args) {
        Check.sentence("THE CODE of a program is that of its last block, END, and for each procedure, A first", CodeTest::orderOfTheCode);
        Check.sentence("Of a unit", CodeTest::codeOfUnits);
        Check.sentence("Of two parts with an operator", CodeTest::codeOfOperators);
        Check.sentence("variable = value, [ value ] = value", CodeTest::codeOfAssignments);
        Check.sentence("ZERO to behind the first block (and behind its JUMP)", CodeTest::codeOfQuestions);
        Check.sentence("LOOP to behind all of it, the block's code, JUMP to the LOOP", CodeTest::codeOfLoops);
        Check.sentence("CALL to the procedure's first instruction", CodeTest::codeOfCalls);
        Check.sentence("NONE if there is no such instruction or w", CodeTest::codeOfNoneSuch);
        Check.sentence("NONE if there is no such instruction (but in a program before)", CodeTest::noCodeOfALongerOneBefore);
        Check.sentence("IllegalStateException if there is no program", CodeTest::toldOnlyOfAProgram);
        Check.sentence("TIME, DEPTH of what has one way", CodeTest::boundsOfOneWay);
        Check.sentence("on any way through them (whatever a ? asks)", CodeTest::whateverAQuestionAsks);
        Check.sentence("at most as often as its PUSH says", CodeTest::asOftenAsPushSays);
        Check.sentence("at most as often as its LIMIT says", CodeTest::asOftenAsLimitSays);
        Check.sentence("at most as often as its PUSH or LIMIT says (0)", CodeTest::aLoopOf0HasNoRound);
        Check.sentence("a CALL costs the TIME of the procedure more", CodeTest::aCallCostsTheProcedureMore);
        Check.sentence("a procedure's own lies there at its beginning", CodeTest::aProceduresOwnReturnIsNotCounted);
        Check.sentence("Both are numbers of the code alone", CodeTest::numbersOfTheCodeAlone);
        Check.sentence("SHORT if it has at most 200 instructions", CodeTest::theMostInstructions);
        Check.sentence("and a TIME of at most 20000", CodeTest::timeOfTheProgramIsAtMost20000);
        Check.sentence("and each of its procedures, too", CodeTest::timeOfEachProcedureToo);
        Check.sentence("and a TIME of at most 20000 (with calls)", CodeTest::timeWithACallIsAtMost20000);
        Check.sentence("and a TIME of at most 20000 (not one that wraps)", CodeTest::longTimesDoNotWrap);
        Check.sentence("and a TIME of at most 20000 (not one that wraps, with calls)", CodeTest::longTimesOfCallsDoNotWrap);
        Check.sentence("About procedure p (0 is A)", CodeTest::procedures);
        Check.sentence("NONE if there is no such procedure or w", CodeTest::procedureOfNoneSuch);
        Check.finish("CodeTest");
    }
}
