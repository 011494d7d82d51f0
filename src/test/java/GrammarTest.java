/** What is a program, and which one is PLAIN: the grammar of the document, sentence by sentence. */
public final class GrammarTest {
    private static void programs(String... texts) {
        for (String text : texts) {
            Check.with(text);
        }
    }

    private static void noPrograms(String... texts) {
        for (String text : texts) {
            Subject x = new Subject();
            Check.dueText("compile " + text, Check.compiled(x, text), Check.NO_TEXT_OF_A_PROGRAM);
            Check.due("length of " + text, x.length(), text.length());
            Check.dueThrow("time of " + text, Check.NO_PROGRAM, x::time);
        }
    }

    private static void program() {
        programs("{}", "A{}{}", "A{}B{}{}", "A{}B{}C{}{}", "A{}B{}C{}D{}{}", "D{}C{}B{}A{}{}", "C{}{}", "B{}D{}A{}C{}{}");
        noPrograms("", "A{}", "A{}B{}", "A{}B{}C{}D{}", "{}{}", "A{}{}{}", "{}A{}", "{}A{}{}", "A{}{}B{}", "{}}", "{}x", "{};",
                "x{}", ";{}", "A{}{};", "{}0", "0{}", "A", "A{", "A{}{", "A}{}", "AB{}{}", "A;{}", "{A{}}", "{!1;}{!2;}");
    }

    private static void names() {
        for (int letter = 33; letter <= 126; letter++) {
            char name = (char) letter;
            String text = name + "{}{}";
            String called = "A{}B{}C{}D{}{" + name + ";}";
            noPrograms(name + "{}", "A{}" + name + "{}");
            if (letter >= 'A' && letter <= 'D') {
                programs(text, called);
            } else {
                noPrograms(text, called);
            }
        }
    }

    private static void eachNameOnce() {
        for (char name = 'A'; name <= 'D'; name++) {
            char other = name == 'A' ? 'D' : 'A';
            noPrograms("" + name + "{}" + name + "{}{}", "" + name + "{}" + other + "{}" + name + "{}{}",
                    "" + name + "{!1;}" + name + "{!1;}{" + name + ";}");
        }
        noPrograms("A{}B{}C{}D{}A{}{}", "A{}B{}C{}D{}D{}{}", "A{}B{}B{}C{}D{}{}");
    }

    private static void blocks() {
        programs("{}", "{a=1;}", "{a=1;b=2;}", "{" + "!1;".repeat(66) + "}", "{" + "?a{}".repeat(49) + "}",
                "A{}{" + "A;".repeat(97) + "}", "{" + "#0{}".repeat(49) + "}");
        noPrograms("{", "}", "}{", "{{}}", "{a=1;", "a=1;}", "a=1;", "{a=1;{}}", "{?a{}", "{#1{}", "A{{}}{}", "(a=1;)", "{\"}", "{~}", "{0}");
    }

    private static void assignments() {
        programs("{a=1;}", "{[1]=2;}", "{[a]=b;}", "{[[1]]=2;}", "{[1<2]=3=4;}", "{[1=2]=3<4;}", "{a=b=c;}");
        noPrograms("{a}", "{a;}", "{a=}", "{a=;}", "{a=1}", "{a=1;;}", "{;}", "{a==1;}", "{=1;}", "{1=a;}", "{(a)=1;}", "{-a=1;}",
                "{a<1;}", "{a=1,}", "{[1]=2}", "{[1]=;}", "{[1]=}", "{[1];}", "{[1]}", "{[]=2;}", "{1]=2;}", "{[1=2;}", "{[1]==2;}",
                "{[1)=2;}", "{[1][2]=3;}", "{a[1]=2;}", "{ab=1;}", "{a=b;c}", "{a+1=2;}");
    }

    private static void outputs() {
        programs("{!1;}", "{!a<b;}", "{!a=b;}", "{![1];}");
        noPrograms("{!}", "{!;}", "{!1}", "{!!1;}", "{!1;;}", "{!a=;}", "{1!;}", "{!{};}");
    }

    private static void questions() {
        programs("{?a{}}", "{?a{}{}}", "{?a<b{}}", "{?a=b{}{}}", "{?a{}{}?b{}}", "{?a{}?b{}{}}", "{?(a){!1;}{!2;}}");
        noPrograms("{?a{!1b=1;}", "{?a{!1b=1;}{}}", "{?a{}{!1b=1;}", "{?a{}{!1b=1;}{}}", "{?a{}{#1b=1;}");
        noPrograms("{?}", "{?a}", "{?a;}", "{?{}}", "{?{}{}}", "{?a{}{}{}}", "{?a{};}", "{?a{}{};}", "{?a{}{}", "{?a{}", "{?a}{}",
                "{?a!1;}", "{?a{}!1;{}}", "{??a{}}");
    }

    private static void loops() {
        programs("{#1{}}", "{#a<1{}}", "{#1<1{}}", "{#1{}#a<1{}}", "{#1{a=1;}}", "{#a+1<5{}}", "{#[1]<1{}}");
        noPrograms("{#1{!1b=1;}", "{#a<1{!1b=1;}", "{#1{?1b=1;}");
        noPrograms("{#}", "{#1}", "{#1;}", "{#{}}", "{#1{}{}}", "{#1{}", "{#1{};}", "{#a<}", "{#a<{}}", "{#a<3}", "{#a<3;}", "{#<3{}}",
                "{#a<3{}{}}", "{#a<b{}}", "{#a<(3){}}", "{#a<[3]{}}", "{#a<-3{}}", "{#a<3+1{}}", "{#a<3*1{}}", "{#a=3{}}", "{##1{}}");
    }

    private static void calls() {
        programs("A{}{A;}", "A{}{A;A;}", "A{}B{A;}{B;}", "A{}{?a{A;}{A;}}", "A{}{#2{A;}}");
        noPrograms("A{}{A}", "A{}{A;;}", "A{}{A=1;}", "A{}{a=A;}", "A{}{!A;}", "A{}{A{}}", "A{}{A();}", "A{}{?A{}}", "A{}{#A<1{}}");
    }

    /** A character that belongs to nothing is not passed over. */
    private static void noOtherCharacters() {
        String[] strange = {"`", "@", "E", "Z", "g", "z", "\"", "$", "%", "&", "'", ",", ".", ":", ">", "\\", "^", "_", "|", "~"};
        String whole = "A{a=-1+[2]*b;}{?a<1{!(2);}{A;}#3{}#b<4{[5]=c=6;}}";
        programs(whole);
        for (String character : strange) {
            for (int at = 0; at <= whole.length(); at++) {
                noPrograms(whole.substring(0, at) + character + whole.substring(at));
            }
        }
    }

    private static void variables() {
        for (int letter = 33; letter <= 126; letter++) {
            char name = (char) letter;
            boolean digit = letter >= '0' && letter <= '9';
            if (letter >= 'a' && letter <= 'f') {
                programs("{" + name + "=1;}", "{!" + name + ";}");
            } else {
                noPrograms("{" + name + "=1;}");
                if (!digit) {
                    noPrograms("{!" + name + ";}");
                }
            }
        }
    }

    private static void values() {
        programs("{!1;}", "{!1<2;}", "{!1=2;}", "{!1+2<3-4;}", "{!1+2=3-4;}", "{!(1<2)<3;}", "{!(1<2)=(3=4);}", "{![1<2];}");
        noPrograms("{!1<2<3;}", "{!1=2=3;}", "{!1<2=3;}", "{!1=2<3;}", "{!<2;}", "{!=2;}", "{!1<;}", "{!1=;}", "{!1<<2;}", "{!1==2;}",
                "{!1<=2;}", "{!1>2;}", "{a=1=2=3;}", "{a=b<c<d;}", "{?1<2<3{}}", "{[1=2=3]=4;}");
    }

    private static void sumsAndProducts() {
        programs("{!1+2;}", "{!1-2;}", "{!1*2;}", "{!1/2;}", "{!1+2-3*4/5;}", "{!1--2;}", "{!1+-2;}", "{!1*-2;}", "{!1/-2;}", "{!-1--1;}",
                "{!" + "1+".repeat(97) + "1;}", "{!" + "1*".repeat(97) + "1;}");
        noPrograms("{!+1;}", "{!*1;}", "{!/1;}", "{!1+;}", "{!1-;}", "{!1*;}", "{!1/;}", "{!1++2;}", "{!1-+2;}", "{!1**2;}", "{!1//2;}",
                "{!1*/2;}", "{!1*+2;}", "{!1%2;}", "{!1,2;}", "{!a.b;}");
    }

    private static void units() {
        programs("{!0;}", "{!f;}", "{![0];}", "{!(0);}", "{!-0;}", "{!-f;}", "{!-[0];}", "{!-(0);}", "{!--0;}", "{![(-[0])];}");
        noPrograms("{!();}", "{![];}", "{!-;}", "{!(1;}", "{!1);}", "{![1;}", "{!1];}", "{!(1];}", "{![1);}", "{!(1)(2);}", "{!ab;}", "{!1a;}",
                "{!a1;}", "{!a(1);}", "{!a[1];}", "{!{1};}", "{!(a=);}", "{!(1;2);}", "{!1-;}");
    }

    private static void numbers() {
        String[] right = {"0", "9", "00", "10", "99", "000", "007", "100", "999"};
        for (String number : right) {
            Subject x = Check.with("{!" + number + ";}");
            Check.due("PUSH " + number, x.code(0, 1), Integer.parseInt(number));
        }
        noPrograms("{!;}", "{!0000;}", "{!0001;}", "{!1000;}", "{!9999;}", "{!99999999999;}", "{!1:;}", "{!/9;}", "{!:;}", "{!0x1;}");
    }

    private static void loopValueIsASum() {
        programs("{#1+2<3{}}", "{#1*2<3{}}", "{#-1<3{}}", "{#(a<b)<3{}}", "{#(a=b)<3{}}", "{#[a<b]<3{}}");
        noPrograms("{#a<b<3{}}", "{#a=b<3{}}", "{#5<3<2{}}", "{#1<2=3{}}", "{#a=3{}}");
    }

    private static void numberAndBlock() {
        Subject number = Check.with("{#7{}}");
        Check.due("#7{}: PUSH", number.code(0, 0), 0);
        Check.due("#7{}: 7", number.code(0, 1), 7);
        Check.due("#7{}: LOOP", number.code(1, 0), 15);
        Subject limit = Check.with("{#7<8{}}");
        Check.due("#7<8{}: PUSH", limit.code(0, 0), 0);
        Check.due("#7<8{}: LIMIT", limit.code(1, 0), 16);
        Check.due("#7<8{}: 8", limit.code(1, 1), 8);
        programs("{#999<8{}}", "{#100<8{}}", "{#7+1<8{}}");
        noPrograms("{#a{}}", "{#(7){}}", "{#-7{}}", "{#7+1{}}", "{#[7]{}}", "{#7*1{}}", "{#7<{}}");
    }

    private static void numberOfALoop() {
        for (int n = 0; n <= 99; n++) {
            programs("{#" + n + "{}}", "{#a<" + n + "{}}");
        }
        programs("{#00{}}", "{#000{}}", "{#09{}}", "{#099{}}", "{#a<00{}}", "{#a<000{}}", "{#a<099{}}");
        for (int n = 100; n <= 999; n++) {
            noPrograms("{#" + n + "{}}", "{#a<" + n + "{}}");
        }
        noPrograms("{#1000{}}", "{#0000{}}", "{#0099{}}", "{#a<1000{}}", "{#a<0099{}}", "{#-1{}}", "{#a<-1{}}");
    }

    private static final String[][] DEEPER_BLOCKS = {{"?1{", "}"}, {"?1{}{", "}"}, {"#1{", "}"}, {"#1<1{", "}"}};
    private static final String[][] DEEPER_VALUES = {{"(", ")"}, {"[", "]"}, {"-", ""}};

    /** All ways to put blocks round a statement and brackets round its value, so many in all. */
    private static void dueDeep(String head, String tail, int blocksLeft, int valuesLeft, boolean fits) {
        if (blocksLeft > 0) {
            for (String[] kind : DEEPER_BLOCKS) {
                dueDeep(head + kind[0], kind[1] + tail, blocksLeft - 1, valuesLeft, fits);
            }
        } else {
            dueDeepValue(head + "!", ";" + tail, valuesLeft, fits);
        }
    }

    private static void dueDeepValue(String head, String tail, int valuesLeft, boolean fits) {
        if (valuesLeft > 0) {
            for (String[] kind : DEEPER_VALUES) {
                dueDeepValue(head + kind[0], kind[1] + tail, valuesLeft - 1, fits);
            }
        } else {
            dueFits(head + "1" + tail, fits);
        }
    }

    private static void dueFits(String text, boolean fits) {
        String answer = Check.compiled(text);
        Check.due("compile " + text + " (" + answer + ") is a program", !answer.equals(Check.NO_TEXT_OF_A_PROGRAM), fits);
    }

    private static void sixDeep() {
        for (int blocks = 0; blocks <= 5; blocks++) {
            dueDeep("{", "}", blocks, 5 - blocks, true);
        }
    }

    private static void sevenDeep() {
        for (int blocks = 0; blocks <= 6; blocks++) {
            dueDeep("{", "}", blocks, 6 - blocks, false);
        }
    }

    private static void farTooDeep() {
        dueFits("{!" + "(".repeat(97) + "1" + ")".repeat(97) + ";}", false);
        dueFits("{!" + "[".repeat(97) + "1" + "]".repeat(97) + ";}", false);
        dueFits("{!" + "-".repeat(195) + "1;}", false);
        dueFits("{" + "#1{".repeat(49) + "}".repeat(49) + "}", false);
        dueFits("{".repeat(100) + "}".repeat(100), false);
        dueFits("{!" + "(".repeat(198), false);
    }

    private static String inBlocks(int blocks, String statement) {
        return "{" + "#1{".repeat(blocks) + statement + "}".repeat(blocks) + "}";
    }

    /** The block round it is one deeper than there are blocks in the program's own. */
    private static void eachStandsOneDeeper() {
        for (int blocks = 0; blocks <= 6; blocks++) {
            dueFits(inBlocks(blocks, "[0]=1;"), blocks < 5);
            dueFits(inBlocks(blocks, "[-0]=1;"), blocks < 4);
            dueFits(inBlocks(blocks, "[(-0)]=1;"), blocks < 3);
            dueFits(inBlocks(blocks, "[0]=-1;"), blocks < 5);
            dueFits(inBlocks(blocks, "[0]=-(1);"), blocks < 4);
            dueFits(inBlocks(blocks, "a=-1;"), blocks < 5);
            dueFits(inBlocks(blocks, "?-1{}"), blocks < 5);
            dueFits(inBlocks(blocks, "?--1{}"), blocks < 4);
            dueFits(inBlocks(blocks, "#-1<1{}"), blocks < 5);
            dueFits(inBlocks(blocks, "#(-1)<1{}"), blocks < 4);
            dueFits(inBlocks(blocks, "?1{}"), blocks < 5);
            dueFits(inBlocks(blocks, "#1{}"), blocks < 5);
            dueFits(inBlocks(blocks, "!1+(2);"), blocks < 5);
            dueFits(inBlocks(blocks, "!1*-2;"), blocks < 5);
            dueFits(inBlocks(blocks, "!1<[2];"), blocks < 5);
            dueFits(inBlocks(blocks, "!1=[2];"), blocks < 5);
        }
    }

    private static void besideOneAnotherIsNotDeeper() {
        dueFits("{!(((((1)))))+(((((2)))))-[[[[[3]]]]]*-----4;}", true);
        dueFits("{!(((((1)))))<(((((2)))));}", true);
        dueFits("{!(((((1)))))=(((((2)))));}", true);
        dueFits("{!(((((1)))))/(((((2)))));}", true);
        dueFits("{?1{?1{?1{?1{?1{}{}}{?1{}}}}}#1{#1{#1{#1{#1{}}}}}}", true);
        dueFits("{[((((0))))]=(((((1)))));}", true);
        dueFits("{[((((0))))]=((((((1))))));}", false);
        dueFits("{[(((((0)))))]=1;}", false);
    }

    private static void blocksOfUnitsAreOneDeep() {
        dueFits("A{!(((((1)))));}{!(((((1)))));}", true);
        dueFits("A{!((((((1))))));}{}", false);
        dueFits("A{#1{#1{#1{#1{#1{}}}}}}{A;}", true);
        dueFits("A{#1{#1{#1{#1{#1{#1{}}}}}}}{A;}", false);
        dueFits("D{!1;}{#1{#1{#1{#1{#1{D;}}}}}}", true);
        dueFits("A{#1{#1{#1{#1{#1{}}}}}}{#1{#1{#1{#1{#1{A;}}}}}}", true);
    }

    private static void asDeepAsItsBlock() {
        String[] plain = {"a=1;", "a=b+1*c/2-d;", "!1<2;", "!a=b;", "A;"};
        for (String statement : plain) {
            for (int blocks = 0; blocks <= 6; blocks++) {
                dueFits("A{}" + inBlocks(blocks, statement), blocks <= 5);
            }
        }
    }

    private static void calledNames() {
        for (char name = 'A'; name <= 'D'; name++) {
            char other = name == 'A' ? 'D' : 'A';
            programs(name + "{}{" + name + ";}");
            noPrograms("{" + name + ";}", other + "{}{" + name + ";}", other + "{" + name + ";}{}",
                    "{#0{" + name + ";}}", "{?0{" + name + ";}}", "{?1{}{" + name + ";}}", other + "{}{" + other + ";" + name + ";}");
        }
        programs("A{B;}B{}{}", "B{}A{B;}{}", "A{D;}D{}{A;}");
    }

    private static void noProgramIsToldFirst() {
        noPrograms("A{A;}{B;}", "A{A;}{!}", "A{A;}", "A{A;}{}}", "{#99{#99{#99{!}}}}", "{#99{#99{#99{A;}}}}", "A{#99{#99{#99{}}}}A{}{}",
                "A{A;!------1;}{}");
    }

    private static boolean hasRing(int graph) {
        int reach = graph;
        for (int by = 0; by < 4; by++) {
            for (int from = 0; from < 4; from++) {
                if ((reach >> 4 * from + by & 1) != 0) {
                    reach |= (reach >> 4 * by & 15) << 4 * from;
                }
            }
        }
        return (reach & 0x8421) != 0;
    }

    /** All ways in which four procedures can call one another. */
    private static void noRing() {
        for (int graph = 0; graph < 1 << 16; graph++) {
            StringBuilder text = new StringBuilder();
            for (int from = 0; from < 4; from++) {
                text.append((char) ('A' + from)).append('{');
                for (int to = 0; to < 4; to++) {
                    text.append((graph >> 4 * from + to & 1) != 0 ? (char) ('A' + to) + ";" : "");
                }
                text.append('}');
            }
            String answer = Check.compiled(text.append("{}").toString());
            String want = hasRing(graph) ? Check.NOT_PLAIN_OR_SHORT : Integer.toString(5 + Integer.bitCount(graph));
            Check.dueText("compile " + text, answer, want);
        }
    }

    private static void ringsWhereverTheCallStands() {
        String[] rings = {"A{A;}{}", "A{A;}{A;}", "A{?a{A;}}{}", "A{?a{}{A;}}{}", "A{#2{A;}}{}", "A{#a<1{A;}}{}", "A{!1;#1{?a{}{A;}}}{}",
            "B{?a{C;}}C{#a<1{B;}}{!1;}", "D{A;}A{!1;D;}{A;}"};
        for (String text : rings) {
            Subject x = new Subject();
            Check.dueText("compile " + text, Check.compiled(x, text), Check.NOT_PLAIN_OR_SHORT);
            Check.due("length of " + text, x.length(), text.length());
            Check.dueThrow("run of " + text, Check.NO_PROGRAM, x::run);
        }
    }

    public static void main(String[] args) {
        Check.sentence("program = { procedure } block", GrammarTest::program);
        Check.sentence("name = A, B, C or D", GrammarTest::names);
        Check.sentence("each for at most one procedure", GrammarTest::eachNameOnce);
        Check.sentence("block = '{' { statement } '}'", GrammarTest::blocks);
        Check.sentence("statement = place = value ;", GrammarTest::assignments);
        Check.sentence("! value ;", GrammarTest::outputs);
        Check.sentence("? value block [ block ]", GrammarTest::questions);
        Check.sentence("# number block or # value < number block", GrammarTest::loops);
        Check.sentence("name ;", GrammarTest::calls);
        Check.sentence("A PROGRAM is built so", GrammarTest::noOtherCharacters);
        Check.sentence("variable = a, b, c, d, e or f", GrammarTest::variables);
        Check.sentence("value = sum [ < sum ] or sum = sum", GrammarTest::values);
        Check.sentence("sum = product { .. }, product = unit { .. }", GrammarTest::sumsAndProducts);
        Check.sentence("unit = number or variable or [ value ] or ( value ) or - unit", GrammarTest::units);
        Check.sentence("number = one to three digits", GrammarTest::numbers);
        Check.sentence("In # value < number the value is a sum", GrammarTest::loopValueIsASum);
        Check.sentence("# number block is meant if a block stands behind the number", GrammarTest::numberAndBlock);
        Check.sentence("The number of a loop is 0 .. 99", GrammarTest::numberOfALoop);
        Check.sentence("Values and blocks are at most 6 deep", GrammarTest::sixDeep);
        Check.sentence("Values and blocks are at most 6 deep (7 are refused)", GrammarTest::sevenDeep);
        Check.sentence("Values and blocks are at most 6 deep (far more, too)", GrammarTest::farTooDeep);
        Check.sentence("each stands one deeper than what it is in", GrammarTest::eachStandsOneDeeper);
        Check.sentence("each stands one deeper than what it is in (not than its neighbour)", GrammarTest::besideOneAnotherIsNotDeeper);
        Check.sentence("the block of a program or procedure is 1 deep", GrammarTest::blocksOfUnitsAreOneDeep);
        Check.sentence("what has none of these is as deep as its block", GrammarTest::asDeepAsItsBlock);
        Check.sentence("A name that is called is that of a procedure", GrammarTest::calledNames);
        Check.sentence("IllegalArgumentException if it is no program; Unsupported.. if it is one, but ..", GrammarTest::noProgramIsToldFirst);
        Check.sentence("PLAIN if no procedure can call itself, directly or by others", GrammarTest::noRing);
        Check.sentence("PLAIN if no procedure can call itself (wherever the call stands)", GrammarTest::ringsWhereverTheCallStands);
        Check.finish("GrammarTest");
    }
}
