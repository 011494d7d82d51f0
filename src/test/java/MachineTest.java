/** The machine: places, each instruction with its edges and cost, wrap-around, traps; sentence by sentence. */
public final class MachineTest {
    private static final int LOWEST = Check.LOWEST;
    private static final int HIGHEST = Check.HIGHEST;
    private static final int[] EDGES = {LOWEST, LOWEST + 1, -1000, -8, -2, -1, 0, 1, 2, 6, 7, 8, 46341, 65536, 65537, HIGHEST - 1, HIGHEST};

    private static void placesOfVariables() {
        for (int i = 0; i < 6; i++) {
            char name = (char) ('a' + i);
            Subject x = Check.with("{!" + name + ";" + name + "=9;}");
            setAll(x);
            Check.due("run with " + name, x.run(), 0);
            Check.due("what " + name + " was", x.output(0), 100 + i);
            dueAllBut(x, i, 9);
        }
    }

    private static void placesOfWords() {
        for (int word = 0; word < 8; word++) {
            Subject x = Check.with("{![" + word + "];[" + word + "]=9;}");
            setAll(x);
            Check.due("run with word " + word, x.run(), 0);
            Check.due("what word " + word + " was", x.output(0), 106 + word);
            dueAllBut(x, 6 + word, 9);
        }
    }

    private static void setAll(Subject x) {
        for (int i = 0; i < 14; i++) {
            Check.due("set(" + i + ")", x.set(i, 100 + i), true);
        }
    }

    private static void dueAllBut(Subject x, int changed, int value) {
        for (int i = 0; i < 14; i++) {
            Check.due("get(" + i + ")", x.get(i), i == changed ? value : 100 + i);
        }
    }

    /** Sets a and b to all edges: what is put out, and the cycles, must be those that are due. */
    private interface Operator {
        int of(int u, int t);
    }

    private static void dueOperator(String sign, int cost, Operator operator) {
        for (int a : EDGES) {
            Subject x = Check.with("{!a" + sign + "b;}");
            for (int b : EDGES) {
                x.set(0, a);
                x.set(1, b);
                String name = a + " " + sign + " " + b;
                if (sign.equals("/") && b == 0) {
                    Check.dueRun(name, x, 1, 2 + 2 + 20, 2, 2, 0);
                } else {
                    Check.dueRun(name, x, 0, 2 + 2 + cost + 6, 2, 4, 1);
                    Check.due(name, x.output(0), operator.of(a, b));
                }
            }
        }
    }

    private static void add() {
        dueOperator("+", 1, (u, t) -> (int) ((long) u + t));
    }

    private static void sub() {
        dueOperator("-", 1, (u, t) -> (int) ((long) u - t));
    }

    private static void mul() {
        dueOperator("*", 5, (u, t) -> (int) ((long) u * t));
    }

    private static void div() {
        dueOperator("/", 20, (u, t) -> (int) ((long) u / t));
    }

    private static void less() {
        dueOperator("<", 1, (u, t) -> (long) u - t < 0 ? 1 : 0);
    }

    private static void same() {
        dueOperator("=", 1, (u, t) -> (u ^ t) == 0 ? 1 : 0);
    }

    private static void neg() {
        Subject x = Check.with("{!-a;}");
        for (int a : EDGES) {
            x.set(0, a);
            Check.dueRun("- " + a, x, 0, 2 + 1 + 6, 1, 3, 1);
            Check.due("- " + a, x.output(0), (int) -(long) a);
        }
    }

    private static void dueValue(String text, int a, int b, int want) {
        Subject x = Check.with("{!" + text + ";}");
        x.set(0, a);
        x.set(1, b);
        Check.due(text + " run()", x.run(), 0);
        Check.due(text + " with " + a + " and " + b, x.output(0), want);
    }

    private static void sumsAndProductsWrap() {
        dueValue("a+b", HIGHEST, 1, LOWEST);
        dueValue("a-b", LOWEST, 1, HIGHEST);
        dueValue("a+b", LOWEST, LOWEST, 0);
        dueValue("a*b", 65536, 65536, 0);
        dueValue("a*b", 65537, 65537, 131073);
        dueValue("a*b", LOWEST, -1, LOWEST);
        dueValue("a*999*999*999", 999, 0, (int) (999L * 999 * 999 * 999));
        dueValue("-a", LOWEST, 0, LOWEST);
        dueValue("0-a", LOWEST, 0, LOWEST);
    }

    private static void quotientsAreJavas() {
        dueValue("a/b", 7, 2, 3);
        dueValue("a/b", -7, 2, -3);
        dueValue("a/b", 7, -2, -3);
        dueValue("a/b", -7, -2, 3);
        dueValue("a/b", 1, 2, 0);
        dueValue("a/b", -1, 2, 0);
        dueValue("a/b", LOWEST, -1, LOWEST);
        dueValue("a/b", HIGHEST, LOWEST, 0);
    }

    private static void operatorsGoFromTheLeft() {
        dueValue("a-b-1", 10, 3, 6);
        dueValue("a-(b-1)", 10, 3, 8);
        dueValue("a/b/2", 100, 5, 10);
        dueValue("a/b*b", 10, 3, 9);
        dueValue("2+3*4", 0, 0, 14);
        dueValue("(2+3)*4", 0, 0, 20);
        dueValue("-a*b", 2, 3, -6);
        dueValue("-a-b", 2, 3, -5);
        dueValue("1+1<3", 0, 0, 1);
        dueValue("1+1=3-1", 0, 0, 1);
        dueValue("a<b", 3, 4, 1);
    }

    private static void pushGetPut() {
        int[] numbers = {0, 1, 9, 10, 99, 100, 999};
        for (int number : numbers) {
            Subject x = Check.with("{e=" + number + ";}");
            Check.dueRun("PUSH " + number, x, 0, 1 + 2, 1, 2, 0);
            Check.due("PUT", x.get(4), number);
        }
        Subject y = Check.with("{e=f;}");
        for (int value : EDGES) {
            y.set(5, value);
            Check.dueRun("GET and PUT " + value, y, 0, 2 + 2, 1, 2, 0);
            Check.due("what is PUT", y.get(4), value);
            Check.due("what was GET", y.get(5), value);
        }
    }

    private static void fetch() {
        for (int t : EDGES) {
            Subject x = Check.with("{b=9;b=[a];}");
            setAll(x);
            x.set(0, t);
            if (t < 0 || t > 7) {
                Check.dueRun("FETCH " + t, x, 2, 3 + 2 + 4, 1, 3, 0);
                Check.due("the variable stays", x.get(1), 9);
            } else {
                Check.dueRun("FETCH " + t, x, 0, 3 + 2 + 4 + 2, 1, 5, 0);
                Check.due("word " + t, x.get(1), 106 + t);
            }
        }
    }

    private static void keep() {
        for (int u : EDGES) {
            for (int t : EDGES) {
                Subject x = Check.with("{[a]=b;}");
                setAll(x);
                x.set(0, u);
                x.set(1, t);
                boolean fits = u >= 0 && u <= 7;
                Check.dueRun("KEEP " + u + " " + t, x, fits ? 0 : 2, 2 + 2 + 4, 2, fits ? 3 : 2, 0);
                for (int word = 0; word < 8; word++) {
                    Check.due("word " + word, x.get(6 + word), word == u ? t : 106 + word);
                }
            }
        }
    }

    private static void out() {
        for (int value : EDGES) {
            Subject x = Check.with("{!a;}");
            x.set(0, value);
            Check.dueRun("OUT " + value, x, 0, 2 + 6, 1, 2, 1);
            Check.due("what is put out", x.output(0), value);
        }
    }

    private static void zero() {
        for (int t : EDGES) {
            Subject one = Check.with("{?a{b=1;}c=1+1;}");
            one.set(0, t);
            Check.dueRun("ZERO " + t, one, 0, t == 0 ? 2 + 3 + 5 : 2 + 1 + 3 + 5, 2, 8, 0);
            Check.due("the block was run", one.get(1), t == 0 ? 0 : 1);
            Subject two = Check.with("{?a{b=1;}{b=2;}c=1+1;}");
            two.set(0, t);
            Check.dueRun("ZERO and JUMP " + t, two, 0, t == 0 ? 2 + 3 + 3 + 5 : 2 + 1 + 3 + 2 + 5, 2, 11, 0);
            Check.due("the block that was run", two.get(1), t == 0 ? 2 : 1);
        }
    }

    private static void loop() {
        for (int n = 0; n <= 99; n++) {
            Subject x = Check.with("{#" + n + "{a=a+1;}b=1+(1+1);}");
            Check.dueRun("LOOP " + n, x, 0, 1 + n * (1 + 6 + 2) + 3 + 7, 3, 13, 0);
            Check.due("rounds", x.get(0), n);
        }
        Subject within = Check.with("{#3{#2{!a;a=a+1;}}}");
        Check.dueRun("a LOOP anew each time", within, 0, 1 + 3 * (3 + 1 + 2 * (3 + 8 + 6) + 3) + 3, 4, 12, 6);
        Subject none = Check.with("{#0{!1/0;}}");
        Check.dueRun("a LOOP of 0", none, 0, 1 + 3, 1, 7, 0);
    }

    private static void limit() {
        int[] limits = {0, 1, 2, 3, 98, 99};
        for (int n : limits) {
            int[] values = {LOWEST, LOWEST + 1, -100, -1, 0, 1, n - 1, n, n + 1, n + 2, 100, 1000, HIGHEST - 1, HIGHEST};
            for (int t : values) {
                Subject x = Check.with("{#a<" + n + "{b=b+1;}c=1;}");
                x.set(0, t);
                String name = "LIMIT " + n + " of " + t;
                int rounds = t > n ? 0 : Math.max(t, 0);
                if (t > n) {
                    Check.dueRun(name, x, 3, 2 + 2, 1, 1, 0);
                } else {
                    Check.dueRun(name, x, 0, 2 + 2 + rounds * (1 + 6 + 2) + 3 + 3, rounds > 0 ? 3 : 1, 10, 0);
                }
                Check.due("rounds", x.get(1), rounds);
                Check.due("behind the loop", x.get(2), t > n ? 0 : 1);
                Check.due("the value stays", x.get(0), t);
            }
        }
    }

    private static void callAndBack() {
        Subject x = Check.with("A{}{A;}");
        Check.dueRun("CALL and BACK", x, 0, 4 + 3, 1, 1, 0);
        Subject y = Check.with("A{!1;}B{!2;A;!3;A;}{B;!4;A;}");
        Check.dueRun("CALL of a CALL", y, 0, 3 * (4 + 3) + 4 + 3 + 6 * 7, 3, 4, 6);
        int[] due = {2, 1, 3, 1, 4, 1};
        for (int k = 0; k < due.length; k++) {
            Check.due("output(" + k + ")", y.output(k), due[k]);
        }
        Subject z = Check.with("A{B;!1;}B{C;!2;}C{D;!3;}D{!4;}{A;!5;}");
        Check.dueRun("four deep", z, 0, 4 * 7 + 5 * 7, 5, 3, 5);
        for (int k = 0; k < 5; k++) {
            Check.due("output(" + k + ")", z.output(k), k == 4 ? 5 : 4 - k);
        }
        Subject loops = Check.with("A{#2{B;}}B{#2{a=a+1;}}{#2{A;}}");
        Check.due("CALL in loops: run", loops.run(), 0);
        Check.due("CALL in loops: rounds", loops.get(0), 8);
        Check.due("CALL in loops: words", loops.latest(1), 1 + 1 + 1 + 1 + 1 + 2);
    }

    private static void end() {
        Check.dueRun("END alone", Check.with("{}"), 0, 0, 0, 0, 0);
        Check.dueRun("END ahead of procedures", Check.with("A{!1;}B{!2;}{}"), 0, 0, 0, 0, 0);
    }

    private static void trapEndsTheRun() {
        String[] traps = {"!1/0;", "a=[8];", "a=[-1];", "[8]=1;", "[-1]=1;", "#4<3{}"};
        int[] which = {1, 2, 2, 2, 2, 3};
        int[] cycles = {1 + 1 + 20, 1 + 4, 1 + 1 + 4, 1 + 1 + 4, 1 + 1 + 1 + 4, 1 + 2};
        int[] at = {2, 1, 2, 2, 3, 1};
        int[] words = {2, 1, 1, 2, 2, 1};
        for (int i = 0; i < traps.length; i++) {
            Subject x = Check.with("{!7;b=5;" + traps[i] + "b=6;!8;}");
            setAll(x);
            Check.dueRun(traps[i], x, which[i], 7 + 3 + cycles[i], words[i], 4 + at[i], 1);
            dueAllBut(x, 1, 5);
            Check.due("what was put out", x.output(0), 7);
            Check.dueThrow("what was not", Check.NO_SUCH, () -> x.output(1));
        }
    }

    private static void trapEndsProceduresAndLoops() {
        Subject x = Check.with("A{!1;!1/a;!2;}{#3{A;}!3;}");
        Check.dueRun("DIV in a procedure in a loop", x, 1, 1 + 1 + 4 + 7 + 1 + 2 + 20, 4, 11, 1);
        x.set(0, 1);
        Check.due("a run behind a trap begins anew", x.run(), 0);
        Check.due("its outputs", x.latest(3), 10);
        Subject y = Check.with("{#2{!6/a;a=a-1;}}");
        y.set(0, 1);
        Check.dueRun("DIV in the second round", y, 1, 1 + 1 + 1 + 2 + 20 + 6 + 6 + 2 + 1 + 1 + 2 + 20, 3, 4, 1);
    }

    private static void trapsOfConstantsAreNotTimesConcern() {
        Subject x = Check.with("{!1/0;}");
        Check.due("time", x.time(), 1 + 1 + 20 + 6);
        Check.dueRun("1/0", x, 1, 22, 2, 2, 0);
        Subject y = Check.with("{#9<4{!1;}}");
        Check.due("time of a loop", y.time(), 1 + 2 + 4 * (3 + 7) + 3);
        Check.dueRun("9<4", y, 3, 3, 1, 1, 0);
    }

    public static void main(String[] args) {
        Check.sentence("THE MACHINE has the variables a .. f as PLACES 0 .. 5", MachineTest::placesOfVariables);
        Check.sentence("eight WORDS as PLACES 6 .. 13", MachineTest::placesOfWords);
        Check.sentence("sums and products wrap", MachineTest::sumsAndProductsWrap);
        Check.sentence("0 PUSH n (cost 1), 1 GET v (2), 2 PUT v (2)", MachineTest::pushGetPut);
        Check.sentence("3 FETCH (4): TRAP 2 if t is not 0 .. 7", MachineTest::fetch);
        Check.sentence("4 KEEP (4): TRAP 2 if u is not 0 .. 7", MachineTest::keep);
        Check.sentence("5 ADD: u + t (1)", MachineTest::add);
        Check.sentence("6 SUB: u - t (1)", MachineTest::sub);
        Check.sentence("7 MUL (5): u * t", MachineTest::mul);
        Check.sentence("8 DIV (20): u / t; TRAP 1 if t is 0", MachineTest::div);
        Check.sentence("u / t (Java's)", MachineTest::quotientsAreJavas);
        Check.sentence("9 LESS: 1 if u is less than t, otherwise 0 (1)", MachineTest::less);
        Check.sentence("10 SAME: 1 if the same, otherwise 0 (1)", MachineTest::same);
        Check.sentence("11 NEG (1): -t instead of t", MachineTest::neg);
        Check.sentence("the left one's, the right one's", MachineTest::operatorsGoFromTheLeft);
        Check.sentence("12 OUT (6): t goes and is put out", MachineTest::out);
        Check.sentence("13 ZERO k (1, but 3 if it goes there), 14 JUMP k (2)", MachineTest::zero);
        Check.sentence("15 LOOP k (1, but 3 if it goes there): if t is 0, it goes from the stack", MachineTest::loop);
        Check.sentence("16 LIMIT n (2): if t is above n, TRAP 3; if it is below 0, 0 takes its place", MachineTest::limit);
        Check.sentence("17 CALL k (4), 18 BACK (3)", MachineTest::callAndBack);
        Check.sentence("19 END (0)", MachineTest::end);
        Check.sentence("A TRAP ends the run, after the cost of the instruction, changing nothing else", MachineTest::trapEndsTheRun);
        Check.sentence("A TRAP ends the run (inside of procedures and loops)", MachineTest::trapEndsProceduresAndLoops);
        Check.sentence("TIME: no TRAP happens; Both are numbers of the code alone", MachineTest::trapsOfConstantsAreNotTimesConcern);
        Check.finish("MachineTest");
    }
}
