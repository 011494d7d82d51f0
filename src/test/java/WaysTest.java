import java.util.ArrayList;
import java.util.HashMap;
import java.util.List;
import java.util.Map;
import java.util.Random;

/**
 * TIME and DEPTH by the document's own words: all ways through the code of small programs are
 * walked, each ? and each LOOP both ways, a LOOP on into its block as often as its bound lets it.
 */
public final class WaysTest {
    private static final int PUSH = 0, PUT = 2, FETCH = 3, KEEP = 4, NEG = 11, OUT = 12, ZERO = 13, JUMP = 14, LOOP = 15,
            LIMIT = 16, CALL = 17, BACK = 18, END = 19;
    private static final int[] COST = {1, 2, 2, 4, 4, 1, 1, 5, 20, 1, 1, 1, 6, 1, 2, 1, 2, 4, 3, 0};
    // Words of the stack: a LOOP's count as it is, a return as RETURN and its instruction, others as ANY.
    private static final int ANY = -1;
    private static final int RETURN = 1000;
    private static final int TEXTS = 4000;

    // Numbers and arguments, read once: an object is used for a few calls only.
    private final int[][] code;
    private final Map<List<Integer>, Integer> known = new HashMap<>();
    private int highest = 0;

    private WaysTest(int[][] code) {
        this.code = code;
    }

    private static int[][] codeOf(Subject x, int size) {
        int[][] code = new int[size][2];
        for (int k = 0; k < size; k++) {
            code[k][0] = x.code(k, 0);
            code[k][1] = x.code(k, 1);
        }
        return code;
    }

    /** The most cycles from instruction k on with this stack (the top is last) to the end. */
    private int longest(int k, List<Integer> stack) {
        highest = Math.max(highest, stack.size());
        List<Integer> state = new ArrayList<>(stack);
        state.add(k);
        Integer before = known.get(state);
        if (before == null) {
            before = longestAnew(k, new ArrayList<>(stack));
            known.put(state, before);
        }
        return before;
    }

    private int longestAnew(int k, List<Integer> stack) {
        int number = code[k][0];
        int argument = code[k][1];
        int top = stack.size() - 1;
        switch (number) {
            case END:
                return 0;
            case BACK: {
                int back = stack.remove(top);
                return 3 + (stack.isEmpty() && back == RETURN ? 0 : longest(back - RETURN, stack));
            }
            case CALL:
                stack.add(RETURN + k + 1);
                return 4 + longest(argument, stack);
            case JUMP:
                return 2 + longest(argument, stack);
            case ZERO:
                stack.remove(top);
                return Math.max(3 + longest(argument, stack), 1 + longest(k + 1, stack));
            case LIMIT:
                stack.set(top, argument);
                return 2 + longest(k + 1, stack);
            case LOOP: {
                int left = stack.remove(top);
                int out = 3 + longest(argument, stack);
                if (left == 0) {
                    return out;
                }
                stack.add(left - 1);
                return Math.max(out, 1 + longest(k + 1, stack));
            }
            default:
                change(number, code[k + 1][0] == LOOP ? argument : ANY, stack);
                return COST[number] + longest(k + 1, stack);
        }
    }

    private static void change(int number, int pushed, List<Integer> stack) {
        int goes = number < PUT ? 0 : number == PUT || number == FETCH || number == NEG || number == OUT ? 1 : 2;
        for (int i = 0; i < goes; i++) {
            stack.remove(stack.size() - 1);
        }
        if (number != PUT && number != KEEP && number != OUT) {
            stack.add(number == PUSH ? pushed : ANY);
        }
    }

    private static void compare(Subject x, String text, int size) {
        int[][] code = codeOf(x, size);
        WaysTest whole = new WaysTest(code);
        Check.due(text + " time()", x.time(), whole.longest(0, new ArrayList<>()));
        Check.due(text + " depth()", x.depth(), whole.highest);
        for (int p = 0; p < 4; p++) {
            int first = x.procedure(p, 0);
            if (first != TimedCompiler.NONE) {
                WaysTest part = new WaysTest(code);
                Check.due(text + " procedure(" + p + ", 1)", x.procedure(p, 1), part.longest(first, List.of(RETURN)));
                Check.due(text + " procedure(" + p + ", 2)", x.procedure(p, 2), part.highest - 1);
            }
        }
    }

    private static void compareAll() {
        Random random = new Random(7);
        Maker maker = new Maker(3, 3);
        int programs = 0;
        for (int n = 0; n < TEXTS; n++) {
            String text = maker.program(10 + random.nextInt(140));
            Subject x = new Subject();
            String size = text.length() <= 200 ? Check.compiled(x, text) : Check.NO_TEXT_OF_A_PROGRAM;
            if (Check.isNumber(size) && x.time() < 5000) {
                programs++;
                compare(x, text, Integer.parseInt(size));
            }
        }
        System.out.println("WaysTest: " + programs + " programs");
        Check.due("there are many programs", programs > TEXTS / 2, true);
    }

    public static void main(String[] args) throws InterruptedException {
        boolean[] done = new boolean[1];
        // A way can be some thousand instructions long, and each is a call.
        Thread walker = new Thread(null, () -> {
            compareAll();
            done[0] = true;
        }, "walker", 1L << 29);
        walker.start();
        walker.join();
        Check.due("the walk came to its end", done[0], true);
        Check.finish("WaysTest");
    }
}
