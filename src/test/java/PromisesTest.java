/** Each promise of the document by hand: ordinary inputs, the edges that it names, wrong inputs. */
public final class PromisesTest {
    private static final Class<IllegalStateException> NO_PROGRAM = IllegalStateException.class;
    private static final Class<IndexOutOfBoundsException> NO_SUCH = IndexOutOfBoundsException.class;
    private static final String WRONG = "IllegalArgumentException";
    private static final String TOO_MUCH = "UnsupportedOperationException";

    private static final int LOWEST = Integer.MIN_VALUE;
    private static final int HIGHEST = Integer.MAX_VALUE;

    private static final int PUSH = 0, GET = 1, PUT = 2, FETCH = 3, KEEP = 4, ADD = 5, SUB = 6, MUL = 7, DIV = 8,
            LESS = 9, SAME = 10, NEG = 11, OUT = 12, ZERO = 13, JUMP = 14, LOOP = 15, LIMIT = 16, CALL = 17, BACK = 18,
            END = 19;

    private static void newObject() {
        TimedCompiler x = new TimedCompiler();
        Check.due("new: length()", x.length(), 0);
        for (int i = 0; i < 14; i++) {
            Check.due("new: get(" + i + ")", x.get(i), 0);
        }
        Check.dueThrow("new: code", NO_PROGRAM, () -> x.code(0, 0));
        Check.dueThrow("new: code of none such", NO_PROGRAM, () -> x.code(-1, 7));
        Check.dueThrow("new: time", NO_PROGRAM, x::time);
        Check.dueThrow("new: depth", NO_PROGRAM, x::depth);
        Check.dueThrow("new: procedure", NO_PROGRAM, () -> x.procedure(0, 0));
        Check.dueThrow("new: procedure of none such", NO_PROGRAM, () -> x.procedure(9, 9));
        Check.dueThrow("new: run", NO_PROGRAM, x::run);
        Check.dueThrow("new: output", NO_SUCH, () -> x.output(0));
        for (int w = -1; w <= 4; w++) {
            Check.due("new: latest(" + w + ")", x.latest(w), -1);
        }
        Check.dueText("new: compile", Check.answerOf(x::compile), WRONG);
        TimedCompiler other = new TimedCompiler();
        Check.due("an object of its own: set", other.set(0, 1), true);
        Check.due("an object of its own: type", other.type('{'), true);
        Check.due("an object of its own: get", x.get(0), 0);
        Check.due("an object of its own: length", x.length(), 0);
    }

    private static void type() {
        TimedCompiler x = new TimedCompiler();
        Check.due("type(0)", x.type(0), true);
        Check.due("length behind type(0)", x.length(), 0);
        Check.due("type with 0 between", x.type(0x7B00000021000031L), true);
        Check.due("length behind it", x.length(), 3);
        Check.due("type at once", x.type(0x3B7D000000000000L), true);
        Check.dueText("the highest byte is the first", Check.answerOf(x::compile), "3");
        Check.due("the number", x.code(0, 1), 1);
        for (int letter = 0; letter < 256; letter++) {
            x.wipe();
            boolean fits = letter == 0 || letter >= 33 && letter <= 126;
            int length = !fits ? 0 : letter == 0 ? 2 : 3;
            Check.due("type of byte " + letter, x.type((long) letter << 56 | 0x6161L), fits);
            Check.due("length behind byte " + letter, x.length(), length);
            x.wipe();
            Check.due("type of low byte " + letter, x.type(0x6161000000000000L | letter), fits);
            Check.due("length behind low byte " + letter, x.length(), length);
        }
    }

    private static void fullText() {
        TimedCompiler x = new TimedCompiler();
        Check.due("24 parts", Check.typeAll(x, "a".repeat(192)), true);
        Check.due("seven more", x.type(Check.pack("{{{{{{{")), true);
        Check.due("length 199", x.length(), 199);
        Check.due("two more than 199", x.type(Check.pack("ab")), false);
        Check.due("still 199", x.length(), 199);
        Check.due("the 200th", x.type('a'), true);
        Check.due("length 200", x.length(), 200);
        Check.due("the 201st", x.type('a'), false);
        Check.due("nothing more", x.type(0), true);
        Check.due("still 200", x.length(), 200);
        x.wipe();
        Check.due("wiped", x.length(), 0);
        Check.due("192 again", Check.typeAll(x, "b".repeat(192)), true);
        Check.due("eight more", x.type(Check.pack("bbbbbbbb")), true);
        Check.due("200 again", x.length(), 200);
    }

    private static void wipeAndLength() {
        TimedCompiler x = Check.with("{!7;}");
        Check.due("compiled: length", x.length(), 0);
        Check.due("run", x.run(), 0);
        x.type(Check.pack("{!8;}"));
        Check.due("length", x.length(), 5);
        x.wipe();
        Check.due("wiped length", x.length(), 0);
        x.wipe();
        Check.due("wiped twice", x.length(), 0);
        Check.due("the program stays", x.code(0, 1), 7);
        Check.due("the run stays", x.output(0), 7);
        Check.dueText("a wiped text", Check.answerOf(x::compile), WRONG);
    }

    private static void compileKeepsOrReplaces() {
        TimedCompiler x = Check.with("A{!1;}{A;!2;}");
        x.set(3, 33);
        Check.due("run", x.run(), 0);
        String[] refused = {"{!3}", "A{A;}{!3;}", "{#99{#99{#9{}}}}"};
        for (int i = 0; i < refused.length; i++) {
            Check.dueText("compile " + refused[i], Check.compiled(x, refused[i]), i == 0 ? WRONG : TOO_MUCH);
            Check.due("the text stays", x.length(), refused[i].length());
            Check.due("the code stays", x.code(1, 1), 2);
            Check.due("the time stays", x.time(), 21);
            Check.due("the depth stays", x.depth(), 2);
            Check.due("the procedure stays", x.procedure(0, 0), 4);
            Check.due("the cycles stay", x.latest(0), 21);
            Check.due("the count stays", x.latest(3), 2);
            Check.due("the output stays", x.output(1), 2);
        }
        x.wipe();
        Check.dueText("compile in two parts", Check.compiled(x, "{!3;"), WRONG);
        x.type('}');
        Check.dueText("the text that stayed can be ended", Check.answerOf(x::compile), "3");
        Check.due("empty then", x.length(), 0);
        Check.due("no run of this one", x.latest(0), -1);
        Check.due("no end of this one", x.latest(2), -1);
        Check.dueThrow("no output of this one", NO_SUCH, () -> x.output(0));
        Check.due("no procedure of this one", x.procedure(0, 0), -1);
        Check.due("no instruction of the one before", x.code(3, 0), -1);
        Check.due("places stay", x.get(3), 33);
        Check.due("run of this one", x.run(), 0);
        Check.due("output of this one", x.output(0), 3);
    }

    private static void noPrograms() {
        String[] texts = {
            "{", "}", "{}{}", "{}}", "{{}}", "A{}", "A{}B{}", "A{}A{}{}", "A{}B{}C{}D{}A{}{}", "E{}{}", "a{}{}", "AB{}{}", "A;{}",
            "{;}", "{a}", "{a;}", "{a=}", "{a=1}", "{a=;}", "{a=1;;}", "{a==1;}", "{=1;}", "{a=1=;}", "{a=1=2=3;}",
            "{a=1<2=3;}", "{a=1=2<3;}", "{a=1<2<3;}", "{a=<2;}", "{g=1;}", "{a=g;}", "{1=a;}", "{(a)=1;}", "{-a=1;}",
            "{a=1000;}", "{a=0000;}", "{a=1a;}", "{a=a1;}", "{a=ab;}", "{a=A;}", "{a=+1;}", "{a=1+;}", "{a=1++1;}",
            "{a=1**1;}", "{a=*1;}", "{a=1/;}", "{a=-;}", "{a=();}", "{a=[];}", "{a=(1;}", "{a=1);}", "{a=[1;}", "{a=1];}",
            "{a=(1];}", "{a=[1);}", "{a=(1)(2);}", "{a={};}", "{[1]=;}", "{[1]=2}", "{[]=2;}", "{[1];}", "{1]=2;}", "{[1=2;}",
            "{[1]==2;}", "{!}", "{!;}", "{!1}", "{!!1;}", "{?}", "{?{}}", "{?1}", "{?1;}", "{?1{}", "{?1{}{}{}}", "{?1{};}",
            "{?1{}{}", "{#}", "{#{}}", "{#1}", "{#1;}", "{#1{}", "{#1{}{}}", "{#100{}}", "{#999{}}", "{#1000{}}", "{#a{}}",
            "{#(1){}}", "{#-1{}}", "{#1+1{}}", "{#a<{}}", "{#a<b{}}", "{#a<(3){}}", "{#a<-3{}}", "{#a<100{}}", "{#a<1000{}}",
            "{#a<3+1{}}", "{#a<3;}", "{#a<3}", "{#<3{}}", "{#a=3{}}", "{#a=b<3{}}", "{#a<b<3{}}", "{#5<3<2{}}", "{#a<3{}{}}",
            "{A}", "{A;}", "B{}{A;}", "A{B;}{}", "{E;}", "{A{}}", "A{}{A}", "A{}{A;;}", "{a=1;}x", "x{a=1;}", "{\"}", "{~}",
            "A{A;}{B;}", "A{A;}{!}", "{#99{#99{#99{!}}}}", "{#99{#99{#99{A;}}}}",
        };
        for (String text : texts) {
            TimedCompiler x = new TimedCompiler();
            Check.dueText("compile " + text, Check.compiled(x, text), WRONG);
            Check.due("length of " + text, x.length(), text.length());
            Check.dueThrow("time of " + text, NO_PROGRAM, x::time);
        }
    }

    private static void programs() {
        String[] texts = {
            "{}", "1", "A{}{}", "2", "D{}C{}B{}A{}{}", "5", "A{}{A;A;}", "4", "A{}B{}C{}D{}{A;B;C;D;}", "9",
            "{a=f;}", "3", "{a=b=c;}", "5", "{a=b<c;}", "5", "{!a=b;}", "5", "{a=0;}", "3", "{a=00;}", "3", "{a=000;}", "3",
            "{a=999;}", "3", "{!a--b;}", "6", "{!a*-b;}", "6", "{!-a*-b/-c-d+e;}", "14", "{[[1]]=[2];}", "6",
            "{[1<2]=3=4;}", "8", "{?a{}}", "3", "{?a{}{}}", "4", "{?a{}{}?b{}}", "6", "{?a<b{!1;}{!2;}}", "10",
            "{#0{}}", "4", "{#99{}}", "4", "{#099{}}", "4", "{#a<99{}}", "5", "{#a<099{}}", "5", "{#999<5{}}", "5",
            "{#5<5{}}", "5", "{#(a<b)<5{}}", "7", "{#a+1<5{}}", "7", "{#-1<5{}}", "6", "{#5+1<5{}}", "7", "{#[1]<1{}}", "6",
        };
        for (int i = 0; i < texts.length; i += 2) {
            Check.dueText("compile " + texts[i], Check.compiled(new TimedCompiler(), texts[i]), texts[i + 1]);
        }
    }

    /** Values and blocks of 6 deep are the last ones. */
    private static void deepOnes() {
        for (int deep = 1; deep <= 9; deep++) {
            boolean fits = deep <= 6;
            int more = deep - 1;
            dueDeep("{!" + "-".repeat(more) + "1;}", fits);
            dueDeep("{!" + "(".repeat(more) + "1" + ")".repeat(more) + ";}", fits);
            dueDeep("{!" + "[".repeat(more) + "1" + "]".repeat(more) + ";}", fits);
            dueDeep("{a=1+2*" + "(".repeat(more) + "1" + ")".repeat(more) + ";}", fits);
            dueDeep("{" + "?1{".repeat(more) + "}".repeat(more) + "}", fits);
            dueDeep("{" + "?1{}{".repeat(more) + "}".repeat(more) + "}", fits);
            dueDeep("{" + "#1{".repeat(more) + "!1;" + "}".repeat(more) + "}", fits);
            dueDeep("{" + "#a<1{".repeat(more) + "}".repeat(more) + "}", fits);
            dueDeep("A{" + "#1{".repeat(more) + "}".repeat(more) + "}{}", fits);
            dueDeep("{" + "#1{".repeat(more) + "[0]=1;" + "}".repeat(more) + "}", deep < 6);
            dueDeep("{" + "#1{".repeat(more) + "a=-1;" + "}".repeat(more) + "}", deep < 6);
            dueDeep("{" + "#1{".repeat(more) + "!(a);" + "}".repeat(more) + "}", deep < 6);
            dueDeep("{" + "#1{".repeat(more) + "#-a<1{}" + "}".repeat(more) + "}", deep < 6);
            dueDeep("{" + "#1{".repeat(more) + "[-1]=1;" + "}".repeat(more) + "}", deep < 5);
        }
        dueDeep("{!-(-[-1]);}", true);
        dueDeep("{!-(-[-(1)]);}", false);
        dueDeep("{[(-[-1])]=1;}", true);
        dueDeep("{[(-[--1])]=1;}", false);
        dueDeep("{[(-[-1])]=(-[(-1)]);}", true);
        dueDeep("{!" + "(".repeat(99) + "1" + ")".repeat(97) + "}", false);
        dueDeep("{!" + "-".repeat(195) + "1;}", false);
    }

    private static void dueDeep(String text, boolean fits) {
        String answer = Check.compiled(new TimedCompiler(), text);
        Check.due("compile " + text + " (" + answer + ") is allowed", !answer.equals(WRONG), fits);
    }

    private static void plainOnes() {
        String[] rings = {
            "A{A;}{}", "A{A;}{A;}", "A{B;}B{A;}{}", "A{B;}B{C;}C{D;}D{A;}{}", "A{}B{}C{}D{D;}{}", "A{B;}B{C;}C{B;}{}",
            "A{?0{A;}}{}", "A{?1{}{A;}}{}", "A{#2{A;}}{}", "A{#a<1{B;}}B{?a{A;}}{!1;}", "D{C;}C{D;}{}", "A{B;C;}B{}C{A;}{}",
        };
        for (String text : rings) {
            TimedCompiler x = new TimedCompiler();
            Check.dueText("compile " + text, Check.compiled(x, text), TOO_MUCH);
            Check.due("length of " + text, x.length(), text.length());
            Check.dueThrow("run of " + text, NO_PROGRAM, x::run);
        }
        Check.dueText("no ring", Check.compiled(new TimedCompiler(), "A{B;C;D;}B{C;D;}C{D;D;}D{}{A;B;C;D;}"), "16");
        Check.dueText("no ring, downwards", Check.compiled(new TimedCompiler(), "A{}B{A;A;}C{B;A;B;}D{C;B;A;}{D;D;}"), "15");
    }

    private static void shortOnes() {
        // Inner loop 1 + 99 (1 + 7 + 2) + 3 = 994, outer one 1 + 20 (1 + 994 + 2) + 3 = 19944, eight times 7.
        String loops = "#20{#99{!1;}}";
        String most = "{" + loops + "!1;".repeat(8) + "}";
        TimedCompiler x = Check.with(most);
        Check.due("time 20000", x.time(), 20000);
        Check.due("a run of 20000", x.run(), 0);
        Check.due("cycles 20000", x.latest(0), 20000);
        Check.due("1988 values", x.latest(3), 1988);
        Check.due("value 31", x.output(31), 1);
        Check.dueThrow("value 32", NO_SUCH, () -> x.output(32));
        Check.dueText("time 20001", Check.compiled(x, "{" + loops + "!1;".repeat(7) + "!-1;}"), TOO_MUCH);
        TimedCompiler y = Check.with("A{" + loops + "!1;".repeat(7) + "a=-1;}{}");
        Check.due("a procedure of 20000", y.procedure(0, 1), 20000);
        Check.due("that is not called", y.time(), 0);
        Check.dueText("a procedure of 20001", Check.compiled(y, "A{" + loops + "!1;".repeat(7) + "a=--1;}{}"), TOO_MUCH);
        Check.dueText("the last procedure of 20001", Check.compiled(y, "D{" + loops + "!1;".repeat(7) + "a=--1;}A{}{}"), TOO_MUCH);
        Check.dueText("a call of 20000", Check.compiled(y, "A{" + loops + "!1;".repeat(7) + "a=-1;}{A;}"), TOO_MUCH);
        Check.dueText("a call in a loop of 0", Check.compiled(y, "A{" + loops + "!1;".repeat(7) + "a=-1;}{#0{A;}}"), "31");
        Check.due("its time", y.time(), 4);
        Check.due("its depth", y.depth(), 1);
        Check.dueText("the other too long, too", Check.compiled(y, "A{#99{#99{#99{}}}}{#0{A;}}"), TOO_MUCH);
        String vast = "#99{#99{#99{#99{#99{";
        Check.dueText("loops of loops", Check.compiled(y, "{" + vast + "!1;}}}}}}"), TOO_MUCH);
        Check.dueText("procedures of loops", Check.compiled(y, "A{" + vast + "B;}}}}}}B{" + vast + "C;}}}}}}C{" + vast
                + "D;}}}}}}D{" + vast + "}}}}}}{" + vast + "A;}}}}}}"), TOO_MUCH);
        Check.dueText("loops in a loop of 0", Check.compiled(y, "{#0{#99{#99{#99{#99{!1;}}}}}}"), "18");
        Check.due("time of a loop of 0", y.time(), 4);
        Check.due("depth of a loop of 0", y.depth(), 1);
    }

    private static void longOnes() {
        TimedCompiler x = Check.with("{a=" + "b+".repeat(97) + "b;}");
        Check.due("197 instructions", x.code(196, 0), END);
        Check.due("behind them", x.code(197, 0), -1);
        Check.due("time", x.time(), 98 * 2 + 97 + 2);
        Check.due("depth", x.depth(), 2);
        x.set(1, 3);
        Check.due("run", x.run(), 0);
        Check.due("sum", x.get(0), 294);
        TimedCompiler y = Check.with("{" + "!1;".repeat(66) + "}");
        Check.due("66 outputs: run", y.run(), 0);
        Check.due("66 outputs: count", y.latest(3), 66);
    }

    /** Numbers and arguments by turns. */
    private static void dueCode(String text, int... code) {
        TimedCompiler x = Check.with(text);
        for (int k = 0; k < code.length / 2; k++) {
            Check.due(text + " code(" + k + ", 0)", x.code(k, 0), code[2 * k]);
            Check.due(text + " code(" + k + ", 1)", x.code(k, 1), code[2 * k + 1]);
        }
        for (int w = -1; w <= 2; w++) {
            Check.due(text + " code behind its end", x.code(code.length / 2, w), -1);
            Check.due(text + " code ahead of it", x.code(-1, w), -1);
        }
    }

    private static void code() {
        dueCode("{}", END, 0);
        dueCode("{a=1;f=999;}", PUSH, 1, PUT, 0, PUSH, 999, PUT, 5, END, 0);
        dueCode("{![a];}", GET, 0, FETCH, 0, OUT, 0, END, 0);
        dueCode("{[b]=c;}", GET, 1, GET, 2, KEEP, 0, END, 0);
        dueCode("{!a-b-c;}", GET, 0, GET, 1, SUB, 0, GET, 2, SUB, 0, OUT, 0, END, 0);
        dueCode("{!a/b*c;}", GET, 0, GET, 1, DIV, 0, GET, 2, MUL, 0, OUT, 0, END, 0);
        dueCode("{!a+b*c;}", GET, 0, GET, 1, GET, 2, MUL, 0, ADD, 0, OUT, 0, END, 0);
        dueCode("{!(a+b)*c;}", GET, 0, GET, 1, ADD, 0, GET, 2, MUL, 0, OUT, 0, END, 0);
        dueCode("{!a-(b-c);}", GET, 0, GET, 1, GET, 2, SUB, 0, SUB, 0, OUT, 0, END, 0);
        dueCode("{!-a*b;}", GET, 0, NEG, 0, GET, 1, MUL, 0, OUT, 0, END, 0);
        dueCode("{!a--b;}", GET, 0, GET, 1, NEG, 0, SUB, 0, OUT, 0, END, 0);
        dueCode("{!a+b<c*d;}", GET, 0, GET, 1, ADD, 0, GET, 2, GET, 3, MUL, 0, LESS, 0, OUT, 0, END, 0);
        dueCode("{e=f=1;}", GET, 5, PUSH, 1, SAME, 0, PUT, 4, END, 0);
        dueCode("{?a{!1;}!2;}", GET, 0, ZERO, 4, PUSH, 1, OUT, 0, PUSH, 2, OUT, 0, END, 0);
        dueCode("{?a{!1;}{!2;}}", GET, 0, ZERO, 5, PUSH, 1, OUT, 0, JUMP, 7, PUSH, 2, OUT, 0, END, 0);
        dueCode("{?a{}{}}", GET, 0, ZERO, 3, JUMP, 3, END, 0);
        dueCode("{?a{?b{}{}}}", GET, 0, ZERO, 5, GET, 1, ZERO, 5, JUMP, 5, END, 0);
        dueCode("{#3{!a;}}", PUSH, 3, LOOP, 5, GET, 0, OUT, 0, JUMP, 1, END, 0);
        dueCode("{#a<3{}}", GET, 0, LIMIT, 3, LOOP, 4, JUMP, 2, END, 0);
        dueCode("{#7<3{}}", PUSH, 7, LIMIT, 3, LOOP, 4, JUMP, 2, END, 0);
        dueCode("C{A;}A{!1;}{C;A;C;}",
                CALL, 7, CALL, 4, CALL, 7, END, 0, PUSH, 1, OUT, 0, BACK, 0, CALL, 4, BACK, 0);
        TimedCompiler x = Check.with("{!5;}");
        int[] others = {-1, 2, 3, LOWEST, HIGHEST};
        for (int other : others) {
            Check.due("code(0, " + other + ")", x.code(0, other), -1);
        }
        Check.due("code(lowest, 0)", x.code(LOWEST, 0), -1);
        Check.due("code(highest, 1)", x.code(HIGHEST, 1), -1);
    }

    private static void dueBounds(String text, int time, int depth) {
        TimedCompiler x = Check.with(text);
        Check.due(text + " time()", x.time(), time);
        Check.due(text + " depth()", x.depth(), depth);
    }

    private static void timeAndDepth() {
        dueBounds("{}", 0, 0);
        dueBounds("{a=1;}", 3, 1);
        dueBounds("{!a*b/c;}", 2 + 2 + 5 + 2 + 20 + 6, 2);
        dueBounds("{!1/0;}", 28, 2);
        dueBounds("{!a*(b+c)<d;}", 2 + 2 + 2 + 1 + 5 + 2 + 1 + 6, 3);
        dueBounds("{[[a]]=-1;}", 2 + 4 + 1 + 1 + 4, 2);
        // A ? that goes: 3; one that does not: 1, its block, and 2 for a JUMP.
        dueBounds("{?a{}}", 5, 1);
        dueBounds("{?a{b=1;}}", 2 + 1 + 3, 1);
        dueBounds("{?a{}{}}", 5, 1);
        dueBounds("{?a{}{b=1;}}", 2 + 3 + 3, 1);
        dueBounds("{?a{b=1;}{}}", 2 + 1 + 3 + 2, 1);
        dueBounds("{?a{b=c;}{b=1+1;}}", 2 + 3 + 5, 2);
        dueBounds("{?0{!1+(1+1);}{!1;}}", 1 + 1 + 11 + 2, 3);
        dueBounds("{?a{?b{}{}}}", 2 + 1 + 5, 1);
        dueBounds("{?a{?b{!1;}}c=1;}", 2 + 1 + 2 + 1 + 7 + 3, 1);
        dueBounds("{#0{}}", 4, 1);
        dueBounds("{#1{}}", 1 + 3 + 3, 1);
        dueBounds("{#99{}}", 1 + 99 * 3 + 3, 1);
        dueBounds("{#0{!1+1;}}", 4, 1);
        dueBounds("{#1{!1+1;}}", 1 + (1 + 9 + 2) + 3, 3);
        dueBounds("{#a<0{!1+1;}}", 2 + 2 + 3, 1);
        dueBounds("{#a<4{!1+1;}}", 2 + 2 + 4 * 12 + 3, 3);
        dueBounds("{#9<4{!1;}}", 1 + 2 + 4 * 10 + 3, 2);
        dueBounds("{#2<4{!1;}}", 1 + 2 + 4 * 10 + 3, 2);
        dueBounds("{#3{#2{!1;}}}", 1 + 3 * (3 + 1 + 2 * 10 + 3) + 3, 3);
        dueBounds("{#3{#0{!1;}}!1+1;}", 1 + 3 * (3 + 4) + 3 + 9, 2);
        dueBounds("{#3{?a{!1;}}}", 1 + 3 * (3 + 2 + 1 + 7) + 3, 2);
        dueBounds("{?a{#2{}}{}}", 2 + 1 + 10 + 2, 1);
        dueBounds("{#0{?a{!1;}{#3{}}}#2{!1;}}", 4 + 1 + 2 * 10 + 3, 2);
        dueBounds("A{}{}", 0, 0);
        dueBounds("A{}{A;}", 7, 1);
        dueBounds("A{}{#3{A;}}", 1 + 3 * (3 + 7) + 3, 2);
        dueBounds("A{}{#0{A;}}", 4, 1);
        dueBounds("A{!1+1;}{!1+(1+1);A;}", 11 + 4 + 9 + 3, 3);
        dueBounds("A{!1+(1+1);}{!1+1;A;}", 9 + 4 + 11 + 3, 4);
        dueBounds("A{B;B;}B{C;C;}C{D;D;}D{}{A;A;}", 2 * (4 + 3 + 2 * (4 + 3 + 2 * (4 + 3 + 2 * 7))), 4);
    }

    /** Each instruction by itself: its cost, and that the stack is as high behind it as it has to be. */
    private static void eachInstruction() {
        String[] operators = {"+", "-", "*", "/", "<", "="};
        int[] costs = {1, 1, 5, 20, 1, 1};
        for (int i = 0; i < operators.length; i++) {
            dueRunOfBounds("{a=7" + operators[i] + "3;}", 2 + costs[i] + 2, 2);
            dueRunOfBounds("{a=1+(7" + operators[i] + "3)+(1+1);}", 1 + 2 + costs[i] + 1 + 3 + 1 + 2, 3);
            dueRunOfBounds("{#2{a=7" + operators[i] + "3;}!1+(1+1);}", 1 + 2 * (3 + 2 + costs[i] + 2) + 3 + 11, 3);
        }
        dueRunOfBounds("{}", 0, 0);
        dueRunOfBounds("{a=1;a=1;a=1+1;}", 3 + 3 + 5, 2);
        dueRunOfBounds("{a=b;a=b;a=b+b;}", 4 + 4 + 7, 2);
        dueRunOfBounds("{!1;!1;!1+1;}", 7 + 7 + 9, 2);
        dueRunOfBounds("{a=1+-[1]+(1+1);}", 1 + 1 + 4 + 1 + 1 + 3 + 1 + 2, 3);
        dueRunOfBounds("{[1]=2;[1]=2;[1]=2+3;}", 6 + 6 + 8, 3);
        dueRunOfBounds("{?0{}?0{}{}?0{}!1+1;}", 4 + 4 + 4 + 9, 2);
        dueRunOfBounds("{?1{!1;}{}?1{!1;}{}!1+1;}", 11 + 11 + 9, 2);
        dueRunOfBounds("{#0{}#0<0{}#1{}!1+1;}", 4 + 6 + 7 + 9, 2);
        dueRunOfBounds("A{}{A;A;!1+1;}", 7 + 7 + 9, 2);
    }

    /** For programs that have but one way. */
    private static void dueRunOfBounds(String text, int time, int depth) {
        dueBounds(text, time, depth);
        TimedCompiler x = Check.with(text);
        Check.due(text + " run()", x.run(), 0);
        Check.due(text + " latest(0)", x.latest(0), time);
        Check.due(text + " latest(1)", x.latest(1), depth);
    }

    private static void procedure() {
        TimedCompiler x = Check.with("D{!1;A;}A{#2{!2+3;}}C{}{?a{D;}{C;}}");
        int[][] due = {
            {6, 1 + 2 * (3 + 9) + 3 + 3, 3},
            {-1, -1, -1},
            {14, 3, 0},
            {15, 7 + 4 + 31 + 3, 4},
        };
        for (int p = 0; p < 4; p++) {
            for (int w = 0; w < 3; w++) {
                Check.due("procedure(" + p + ", " + w + ")", x.procedure(p, w), due[p][w]);
            }
            int[] others = {-1, 3, 4, LOWEST, HIGHEST};
            for (int other : others) {
                Check.due("procedure(" + p + ", " + other + ")", x.procedure(p, other), -1);
            }
        }
        int[] none = {-1, 4, 5, LOWEST, HIGHEST};
        for (int p : none) {
            for (int w = -1; w < 4; w++) {
                Check.due("procedure(" + p + ", " + w + ")", x.procedure(p, w), -1);
            }
        }
        Check.due("time", x.time(), 2 + 1 + 4 + 45 + 2);
        Check.due("depth", x.depth(), 5);
    }

    private static void setAndGet() {
        TimedCompiler x = new TimedCompiler();
        for (int i = 0; i < 14; i++) {
            Check.due("set(" + i + ")", x.set(i, 1000 - i), true);
        }
        for (int i = 0; i < 14; i++) {
            Check.due("get(" + i + ")", x.get(i), 1000 - i);
        }
        int[] none = {-1, 14, 15, 100, LOWEST, HIGHEST};
        for (int i : none) {
            Check.due("set(" + i + ")", x.set(i, 5), false);
            Check.dueThrow("get(" + i + ")", NO_SUCH, () -> x.get(i));
        }
        Check.due("set lowest", x.set(13, LOWEST), true);
        Check.due("get lowest", x.get(13), LOWEST);
        Check.due("its neighbour", x.get(12), 988);
        Check.due("set again", x.set(13, HIGHEST), true);
        Check.due("get again", x.get(13), HIGHEST);
        Check.dueText("compile", Check.compiled(x, "{a=[0];[7]=f;}"), "7");
        Check.due("places stay behind compile", x.get(13), HIGHEST);
        Check.due("run", x.run(), 0);
        Check.due("word 0 is place 6", x.get(0), 994);
        Check.due("word 7 is place 13", x.get(13), 995);
    }

    /** The value of !text; with a, b and c set. */
    private static void dueValue(String text, int a, int b, int want) {
        TimedCompiler x = Check.with("{!" + text + ";}");
        x.set(0, a);
        x.set(1, b);
        Check.due(text + " run", x.run(), 0);
        Check.due(text + " for " + a + ", " + b, x.output(0), want);
    }

    private static void values() {
        dueValue("a+b", HIGHEST, 1, LOWEST);
        dueValue("a-b", LOWEST, 1, HIGHEST);
        dueValue("a*b", 65537, 65537, 131073);
        dueValue("a/b", LOWEST, -1, LOWEST);
        dueValue("a/b", -7, 2, -3);
        dueValue("a/b", 7, 1, 7);
        dueValue("a/b", 7, -2, -3);
        dueValue("-a", LOWEST, 0, LOWEST);
        dueValue("a<b", LOWEST, HIGHEST, 1);
        dueValue("a<b", 3, 3, 0);
        dueValue("a<b", 4, 3, 0);
        dueValue("a=b", 3, 3, 1);
        dueValue("a=b", 3, 4, 0);
        dueValue("a=b", 1000, 1000, 1);
        dueValue("a-b-1", 10, 3, 6);
        dueValue("a/b*b", 10, 3, 9);
        dueValue("2+3*4", 0, 0, 14);
        dueValue("(2+3)*4", 0, 0, 20);
        dueValue("007", 0, 0, 7);
    }

    private static void dueRun(TimedCompiler x, String name, int... answers) {
        Check.due(name + " run()", x.run(), answers[0]);
        for (int w = 0; w < 4; w++) {
            Check.due(name + " latest(" + w + ")", x.latest(w), answers[w + 1]);
        }
    }

    private static void traps() {
        TimedCompiler x = Check.with("{!5;a=7/b;!6;}");
        x.set(0, 70);
        dueRun(x, "DIV", 1, 7 + 3 + 20, 2, 4, 1);
        Check.due("the place stays", x.get(0), 70);
        Check.due("what was put out", x.output(0), 5);
        Check.dueThrow("what was not", NO_SUCH, () -> x.output(1));
        x.set(1, 2);
        dueRun(x, "DIV without a trap", 0, 7 + 25 + 7, 2, 8, 2);
        Check.due("the quotient", x.get(0), 3);
        int[] none = {-1, 8, LOWEST, HIGHEST};
        int[] some = {0, 3, 7};
        TimedCompiler fetch = Check.with("{b=1;b=[a];}");
        TimedCompiler keep = Check.with("{[a]=9;}");
        for (int a : none) {
            fetch.set(0, a);
            dueRun(fetch, "FETCH " + a, 2, 3 + 2 + 4, 1, 3, 0);
            Check.due("the variable stays", fetch.get(1), 1);
            keep.set(0, a);
            dueRun(keep, "KEEP " + a, 2, 2 + 1 + 4, 2, 2, 0);
        }
        for (int i = 6; i < 14; i++) {
            Check.due("the words stay", keep.get(i), 0);
        }
        for (int a : some) {
            fetch.set(0, a);
            fetch.set(6 + a, 60 + a);
            dueRun(fetch, "FETCH " + a, 0, 3 + 2 + 4 + 2, 1, 5, 0);
            Check.due("the variable", fetch.get(1), 60 + a);
            keep.set(0, a);
            dueRun(keep, "KEEP " + a, 0, 7, 2, 3, 0);
            Check.due("the word", keep.get(6 + a), 9);
        }
        TimedCompiler limit = Check.with("{#a<3{!1;}}");
        int[][] rounds = {{0, 0}, {1, 1}, {3, 3}, {-1, 0}, {LOWEST, 0}};
        for (int[] round : rounds) {
            limit.set(0, round[0]);
            dueRun(limit, "LIMIT " + round[0], 0, 2 + 2 + round[1] * 10 + 3, round[1] > 0 ? 2 : 1, 6, round[1]);
        }
        int[] above = {4, 100, HIGHEST};
        for (int a : above) {
            limit.set(0, a);
            dueRun(limit, "LIMIT " + a, 3, 4, 1, 1, 0);
        }
        TimedCompiler inside = Check.with("A{!1;!1/a;}{#3{A;}}");
        dueRun(inside, "in a procedure", 1, 1 + 1 + 4 + 7 + 23, 4, 9, 1);
    }

    private static void runsOneAfterAnother() {
        TimedCompiler x = Check.with("{a=a+1;#a<9{!a;}?a<2{!77;}{!88;}}");
        dueRun(x, "first", 0, 6 + 4 + 11 + 3 + 4 + 1 + 7 + 2, 2, 19, 2);
        Check.due("first output", x.output(0), 1);
        Check.due("second output", x.output(1), 77);
        dueRun(x, "second", 0, 6 + 4 + 22 + 3 + 4 + 3 + 7, 2, 19, 3);
        Check.due("a goes on", x.get(0), 2);
        Check.due("third output", x.output(2), 88);
        x.set(0, 9);
        dueRun(x, "trap", 3, 6 + 4, 2, 5, 0);
        Check.due("a stays as the run left it", x.get(0), 10);
        Check.dueThrow("no output", NO_SUCH, () -> x.output(0));
        x.set(0, -1);
        dueRun(x, "behind a trap", 0, 6 + 4 + 3 + 4 + 1 + 7 + 2, 2, 19, 1);
        int[] others = {-1, 4, 5, LOWEST, HIGHEST};
        for (int w : others) {
            Check.due("latest(" + w + ")", x.latest(w), -1);
        }
    }

    private static void outputs() {
        for (int count = 30; count <= 35; count++) {
            TimedCompiler x = Check.with("{#" + count + "{!a*a;a=a+1;}}");
            Check.dueThrow("ahead of a run", NO_SUCH, () -> x.output(0));
            Check.due("run", x.run(), 0);
            Check.due("count", x.latest(3), count);
            for (int k = 0; k < Math.min(count, 32); k++) {
                Check.due("output(" + k + ")", x.output(k), k * k);
            }
            int[] none = {-1, Math.min(count, 32), count, 35, LOWEST, HIGHEST};
            for (int k : none) {
                Check.dueThrow("output(" + k + ") of " + count, NO_SUCH, () -> x.output(k));
            }
        }
    }

    private static void calls() {
        TimedCompiler x = Check.with("A{B;!1;B;}B{!2;C;}C{a=a+1;}{#2{A;}!a;}");
        Check.due("run", x.run(), 0);
        int[] due = {2, 1, 2, 2, 1, 2, 4};
        Check.due("count", x.latest(3), due.length);
        for (int k = 0; k < due.length; k++) {
            Check.due("output(" + k + ")", x.output(k), due[k]);
        }
        Check.due("no ? is in it, so a run takes its time", x.latest(0), x.time());
        Check.due("and its depth", x.latest(1), x.depth());
        Check.due("depth", x.depth(), 1 + 1 + 1 + 1 + 2);
    }

    public static void main(String[] args) {
        newObject();
        type();
        fullText();
        wipeAndLength();
        compileKeepsOrReplaces();
        noPrograms();
        programs();
        deepOnes();
        plainOnes();
        shortOnes();
        longOnes();
        code();
        timeAndDepth();
        eachInstruction();
        procedure();
        setAndGet();
        values();
        traps();
        runsOneAfterAnother();
        outputs();
        calls();
        Check.finish("PromisesTest");
    }
}
