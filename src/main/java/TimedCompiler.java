/**
 * Compiles small programs whose loops all have a bound for a machine that counts its cycles and
 * its stack, says from the code alone how many cycles and words of stack a run can take at most,
 * and runs the code.
 */
public final class TimedCompiler {
    public static final int NONE = -1;

    private static final int MOST_LETTERS = 200;
    private static final int MOST_INSTRUCTIONS = 200;
    private static final int MOST_TIME = 20000;
    private static final int MOST_ROUNDS = 99;
    private static final int MOST_DIGITS = 3;
    private static final int DEEPEST = 6;
    private static final int VARIABLES = 6;
    private static final int WORDS = 8;
    private static final int PLACES = VARIABLES + WORDS;
    private static final int KEPT_OUTPUTS = 32;

    // A unit is a procedure (0 is A) or, behind them, the program's last block.
    private static final int PROCEDURES = 4;
    private static final int MAIN = PROCEDURES;
    private static final int UNITS = PROCEDURES + 1;

    private static final int PUSH = 0;
    private static final int GET = 1;
    private static final int PUT = 2;
    private static final int FETCH = 3;
    private static final int KEEP = 4;
    private static final int ADD = 5;
    private static final int SUB = 6;
    private static final int MUL = 7;
    private static final int DIV = 8;
    private static final int LESS = 9;
    private static final int SAME = 10;
    private static final int NEG = 11;
    private static final int OUT = 12;
    private static final int ZERO = 13;
    private static final int JUMP = 14;
    private static final int LOOP = 15;
    private static final int LIMIT = 16;
    private static final int CALL = 17;
    private static final int BACK = 18;
    private static final int END = 19;

    // By an instruction's number: its cycles, and by how much the stack has grown behind it.
    private static final int[] COST = {1, 2, 2, 4, 4, 1, 1, 5, 20, 1, 1, 1, 6, 1, 2, 1, 2, 4, 3, 0};
    private static final int[] GROWTH = {1, 1, -1, 0, -2, -1, -1, -1, -1, -1, -1, 0, -1, -1, 0, 0, 0, 1, -1, 0};
    // What a ZERO or a LOOP costs more if it goes to its argument.
    private static final int GOING_THERE = 2;

    private static final int ENDED = 0;
    private static final int TRAP_DIVISOR = 1;
    private static final int TRAP_WORD = 2;
    private static final int TRAP_LIMIT = 3;
    private static final int STILL_RUNNING = -1;

    private final Parser parser = new Parser();
    private final Bounds bounds = new Bounds();
    private final Code program = new Code();
    private final Machine machine = new Machine();

    public TimedCompiler() {
    }

    public boolean type(long part) {
        return parser.text.append(part);
    }

    public void wipe() {
        parser.text.size = 0;
    }

    public int length() {
        return parser.text.size;
    }

    public int compile() throws IllegalArgumentException, UnsupportedOperationException {
        if (!parser.readProgram()) {
            throw new IllegalArgumentException();
        }
        parser.writeProgram();
        if (!bounds.settle(parser.draft)) {
            throw new UnsupportedOperationException();
        }
        program.copy(parser.draft);
        parser.text.size = 0;
        machine.forgetRun();
        return program.size;
    }

    public int code(int k, int w) throws IllegalStateException {
        needProgram();
        if (k < 0 || k >= program.size) {
            return NONE;
        }
        switch (w) {
            case 0:
                return program.numbers[k];
            case 1:
                return program.arguments[k];
            default:
                return NONE;
        }
    }

    public int time() throws IllegalStateException {
        needProgram();
        return program.times[MAIN];
    }

    public int depth() throws IllegalStateException {
        needProgram();
        return program.depths[MAIN];
    }

    public int procedure(int p, int w) throws IllegalStateException {
        needProgram();
        if (p < 0 || p >= PROCEDURES || !program.has(p)) {
            return NONE;
        }
        switch (w) {
            case 0:
                return program.first[p];
            case 1:
                return program.times[p];
            case 2:
                return program.depths[p];
            default:
                return NONE;
        }
    }

    public boolean set(int i, int v) {
        if (i < 0 || i >= PLACES) {
            return false;
        }
        machine.places[i] = v;
        return true;
    }

    public int get(int i) throws IndexOutOfBoundsException {
        if (i < 0 || i >= PLACES) {
            throw new IndexOutOfBoundsException();
        }
        return machine.places[i];
    }

    public int run() throws IllegalStateException {
        needProgram();
        return machine.carryOut(program);
    }

    public int latest(int w) {
        if (!machine.hasRun) {
            return NONE;
        }
        switch (w) {
            case 0:
                return machine.cycles;
            case 1:
                return machine.highest;
            case 2:
                return machine.at;
            case 3:
                return machine.outputCount;
            default:
                return NONE;
        }
    }

    public int output(int k) throws IndexOutOfBoundsException {
        if (k < 0 || k >= KEPT_OUTPUTS || k >= machine.outputCount) {
            throw new IndexOutOfBoundsException();
        }
        return machine.outputs[k];
    }

    private void needProgram() {
        // The shortest program has its END, so a code without instructions is no program.
        if (program.size == 0) {
            throw new IllegalStateException();
        }
    }

    /** The typed text, and how far it has been read. */
    private static final class Text {
        // No typed character is 0.
        private static final char NOTHING = 0;

        final char[] letters = new char[MOST_LETTERS];
        int size;
        int at;

        boolean append(long part) {
            int fresh = countLetters(part);
            if (fresh == NONE || size + fresh > MOST_LETTERS) {
                return false;
            }
            for (int shift = 56; shift >= 0; shift -= 8) {
                int letter = (int) (part >>> shift) & 255;
                if (letter != 0 && size < MOST_LETTERS) {
                    letters[size] = (char) letter;
                    size++;
                }
            }
            return true;
        }

        /** NONE if a byte is neither 0 nor a character of a text. */
        private static int countLetters(long part) {
            int count = 0;
            for (int shift = 56; shift >= 0; shift -= 8) {
                int letter = (int) (part >>> shift) & 255;
                if (letter != 0) {
                    if (letter < 33 || letter > 126) {
                        return NONE;
                    }
                    count++;
                }
            }
            return count;
        }

        private char letterAt(int place) {
            return place >= 0 && place < size && place < MOST_LETTERS ? letters[place] : NOTHING;
        }

        private static boolean isDigit(char letter) {
            return letter >= '0' && letter <= '9';
        }

        boolean atEnd() {
            return at == size;
        }

        boolean sees(char letter) {
            return letterAt(at) == letter;
        }

        boolean takes(char letter) {
            if (!sees(letter)) {
                return false;
            }
            at++;
            return true;
        }

        /** Takes a letter of a row of them: which one it was, from 0; NONE if none of them is next. */
        int takeOneOf(char lowest, int count) {
            int which = letterAt(at) - lowest;
            if (which < 0 || which >= count) {
                return NONE;
            }
            at++;
            return which;
        }

        private int countDigits() {
            int digits = 0;
            while (digits < MOST_DIGITS && isDigit(letterAt(at + digits))) {
                digits++;
            }
            return digits;
        }

        boolean seesNumberAndBlock() {
            int digits = countDigits();
            return digits > 0 && letterAt(at + digits) == '{';
        }

        int takeNumber() {
            int digits = countDigits();
            if (digits == 0) {
                return NONE;
            }
            int number = 0;
            for (int i = 0; i < digits; i++) {
                number = number * 10 + (letterAt(at + i) - '0');
            }
            at += digits;
            return number;
        }
    }

    /** The instructions of a program, and what is known of its units. */
    private static final class Code {
        final int[] numbers = new int[MOST_INSTRUCTIONS];
        final int[] arguments = new int[MOST_INSTRUCTIONS];
        // Counts on where the rows are full, so that a program that is too long can be told.
        int size;
        final int[] first = new int[UNITS];
        final int[] last = new int[UNITS];
        final int[] times = new int[UNITS];
        final int[] depths = new int[UNITS];

        void clear() {
            size = 0;
            for (int unit = 0; unit < UNITS; unit++) {
                first[unit] = NONE;
                last[unit] = NONE;
                times[unit] = 0;
                depths[unit] = 0;
            }
        }

        void copy(Code other) {
            size = other.size;
            System.arraycopy(other.numbers, 0, numbers, 0, MOST_INSTRUCTIONS);
            System.arraycopy(other.arguments, 0, arguments, 0, MOST_INSTRUCTIONS);
            System.arraycopy(other.first, 0, first, 0, UNITS);
            System.arraycopy(other.last, 0, last, 0, UNITS);
            System.arraycopy(other.times, 0, times, 0, UNITS);
            System.arraycopy(other.depths, 0, depths, 0, UNITS);
        }

        /** Where the instruction stands. */
        int add(int number, int argument) {
            int k = size;
            if (k < MOST_INSTRUCTIONS) {
                numbers[k] = number;
                arguments[k] = argument;
            }
            size++;
            return k;
        }

        /** Lets instruction k go to the one that is added next. */
        void aim(int k) {
            if (k >= 0 && k < MOST_INSTRUCTIONS) {
                arguments[k] = size;
            }
        }

        boolean isTooLong() {
            return size > MOST_INSTRUCTIONS;
        }

        boolean has(int unit) {
            return first[unit] != NONE;
        }

        /** Calls are written with their procedure's number, as its first instruction is not known yet. */
        void linkCalls() {
            for (int k = 0; k < size && k < MOST_INSTRUCTIONS; k++) {
                int p = arguments[k];
                if (numbers[k] == CALL && p >= 0 && p < PROCEDURES) {
                    arguments[k] = first[p];
                }
            }
        }

        int procedureAt(int k) {
            for (int p = 0; p < PROCEDURES; p++) {
                if (first[p] == k) {
                    return p;
                }
            }
            return NONE;
        }
    }

    /**
     * Reads the text twice, as the last block's code comes first: readProgram sees whether it is a
     * program and where its blocks are, writeProgram writes their code in its order.
     */
    private static final class Parser {
        final Text text = new Text();
        final Code draft = new Code();
        // Where in the text the block of each unit begins.
        private final int[] blocks = new int[UNITS];
        private final boolean[] called = new boolean[PROCEDURES];

        private void begin() {
            text.at = 0;
            draft.clear();
            for (int unit = 0; unit < UNITS; unit++) {
                blocks[unit] = NONE;
            }
            for (int p = 0; p < PROCEDURES; p++) {
                called[p] = false;
            }
        }

        boolean readProgram() {
            begin();
            for (int n = 0; n < PROCEDURES; n++) {
                int p = text.takeOneOf('A', PROCEDURES);
                if (p == NONE) {
                    break;
                }
                if (blocks[p] != NONE) {
                    return false;
                }
                blocks[p] = text.at;
                if (!readBlock(1)) {
                    return false;
                }
            }
            blocks[MAIN] = text.at;
            return readBlock(1) && text.atEnd() && calledOnesAreThere();
        }

        private boolean calledOnesAreThere() {
            for (int p = 0; p < PROCEDURES; p++) {
                if (called[p] && blocks[p] == NONE) {
                    return false;
                }
            }
            return true;
        }

        /** Only behind a readProgram that was true. */
        void writeProgram() {
            draft.clear();
            writeUnit(MAIN, END);
            for (int p = 0; p < PROCEDURES; p++) {
                if (blocks[p] != NONE) {
                    writeUnit(p, BACK);
                }
            }
            draft.linkCalls();
        }

        private void writeUnit(int unit, int ending) {
            text.at = blocks[unit];
            draft.first[unit] = draft.size;
            readBlock(1);
            draft.last[unit] = draft.add(ending, 0);
        }

        /** Always true, so that a rule can end with it. */
        private boolean write(int number, int argument) {
            draft.add(number, argument);
            return true;
        }

        private boolean readBlock(int deep) {
            if (deep > DEEPEST || !text.takes('{')) {
                return false;
            }
            for (int n = 0; n < MOST_LETTERS && !text.sees('}'); n++) {
                if (!readStatement(deep)) {
                    return false;
                }
            }
            return text.takes('}');
        }

        private boolean readStatement(int deep) {
            if (text.takes('!')) {
                return readValue(deep) && text.takes(';') && write(OUT, 0);
            }
            if (text.takes('?')) {
                return readChoice(deep);
            }
            if (text.takes('#')) {
                return readLoop(deep);
            }
            if (text.takes('[')) {
                return readInner(']', deep + 1) && text.takes('=')
                        && readValue(deep) && text.takes(';') && write(KEEP, 0);
            }
            int variable = text.takeOneOf('a', VARIABLES);
            if (variable != NONE) {
                return text.takes('=') && readValue(deep) && text.takes(';') && write(PUT, variable);
            }
            int p = text.takeOneOf('A', PROCEDURES);
            if (p != NONE) {
                called[p] = true;
                return text.takes(';') && write(CALL, p);
            }
            return false;
        }

        private boolean readChoice(int deep) {
            if (!readValue(deep)) {
                return false;
            }
            int zero = draft.add(ZERO, 0);
            if (!readBlock(deep + 1)) {
                return false;
            }
            if (!text.sees('{')) {
                draft.aim(zero);
                return true;
            }
            int jump = draft.add(JUMP, 0);
            draft.aim(zero);
            if (!readBlock(deep + 1)) {
                return false;
            }
            draft.aim(jump);
            return true;
        }

        private boolean readLoop(int deep) {
            int bounding = PUSH;
            if (!text.seesNumberAndBlock()) {
                bounding = LIMIT;
                if (!readSum(deep) || !text.takes('<')) {
                    return false;
                }
            }
            int most = text.takeNumber();
            if (most == NONE || most > MOST_ROUNDS) {
                return false;
            }
            draft.add(bounding, most);
            int loop = draft.add(LOOP, 0);
            if (!readBlock(deep + 1)) {
                return false;
            }
            draft.add(JUMP, loop);
            draft.aim(loop);
            return true;
        }

        private boolean readValue(int deep) {
            if (!readSum(deep)) {
                return false;
            }
            if (text.takes('<')) {
                return readSum(deep) && write(LESS, 0);
            }
            if (text.takes('=')) {
                return readSum(deep) && write(SAME, 0);
            }
            return true;
        }

        private boolean readSum(int deep) {
            if (!readProduct(deep)) {
                return false;
            }
            for (int n = 0; n < MOST_LETTERS; n++) {
                int operator = text.takes('+') ? ADD : text.takes('-') ? SUB : NONE;
                if (operator == NONE) {
                    return true;
                }
                if (!readProduct(deep)) {
                    return false;
                }
                draft.add(operator, 0);
            }
            return true;
        }

        private boolean readProduct(int deep) {
            if (!readUnit(deep)) {
                return false;
            }
            for (int n = 0; n < MOST_LETTERS; n++) {
                int operator = text.takes('*') ? MUL : text.takes('/') ? DIV : NONE;
                if (operator == NONE) {
                    return true;
                }
                if (!readUnit(deep)) {
                    return false;
                }
                draft.add(operator, 0);
            }
            return true;
        }

        private boolean readUnit(int deep) {
            if (text.takes('(')) {
                return readInner(')', deep + 1);
            }
            if (text.takes('[')) {
                return readInner(']', deep + 1) && write(FETCH, 0);
            }
            if (text.takes('-')) {
                return deep < DEEPEST && readUnit(deep + 1) && write(NEG, 0);
            }
            int variable = text.takeOneOf('a', VARIABLES);
            if (variable != NONE) {
                return write(GET, variable);
            }
            int number = text.takeNumber();
            return number != NONE && write(PUSH, number);
        }

        /** What stands in brackets that are open already. */
        private boolean readInner(char close, int deep) {
            return deep <= DEEPEST && readValue(deep) && text.takes(close);
        }
    }

    /**
     * Finds TIME and DEPTH of each unit in one walk over its code, upwards: all jumps go up but for
     * those of a loop, which is counted as a whole where its last instruction is passed.
     */
    private static final class Bounds {
        // The most cycles on a way from the unit's beginning to instruction k, and the words more
        // that are on the stack there. A long is enough: five loops of 99 rounds in one another
        // round 200 instructions, each of at most 4 + 20001 cycles, stay below 10 to the 17th.
        private final long[] cycles = new long[MOST_INSTRUCTIONS + 1];
        private final int[] words = new int[MOST_INSTRUCTIONS + 1];
        private int deepest;

        /** False if the program is not PLAIN or not SHORT. */
        boolean settle(Code code) {
            if (code.isTooLong() || !settleProcedures(code)) {
                return false;
            }
            measure(code, MAIN);
            for (int unit = 0; unit < UNITS; unit++) {
                if (code.times[unit] > MOST_TIME) {
                    return false;
                }
            }
            return true;
        }

        /**
         * A procedure is measured when all that it calls have been: each round measures at least
         * one more, unless the rest of them call one another in a ring.
         */
        private boolean settleProcedures(Code code) {
            int open = 0;
            for (int p = 0; p < PROCEDURES; p++) {
                if (code.has(p)) {
                    open |= 1 << p;
                }
            }
            for (int round = 0; round < PROCEDURES; round++) {
                for (int p = 0; p < PROCEDURES; p++) {
                    if ((open & 1 << p) != 0 && (calledBy(code, p) & open) == 0) {
                        measure(code, p);
                        open &= ~(1 << p);
                    }
                }
            }
            return open == 0;
        }

        private static int calledBy(Code code, int unit) {
            int called = 0;
            for (int k = code.first[unit]; k < code.last[unit]; k++) {
                int p = code.numbers[k] == CALL ? code.procedureAt(code.arguments[k]) : NONE;
                if (p != NONE) {
                    called |= 1 << p;
                }
            }
            return called;
        }

        private void measure(Code code, int unit) {
            int end = code.last[unit];
            int k = code.first[unit];
            for (int i = k; i <= end; i++) {
                cycles[i] = 0;
                words[i] = 0;
            }
            deepest = 0;
            for (int n = 0; n < MOST_INSTRUCTIONS && k < end; n++) {
                k = pass(code, k);
            }
            // One more than the most tells enough, and keeps the times of callers small.
            long most = Math.min(cycles[end] + COST[code.numbers[end]], MOST_TIME + 1L);
            code.times[unit] = (int) most;
            code.depths[unit] = deepest;
        }

        /** Tells those that can come behind instruction k of it: the next one to pass. */
        private int pass(Code code, int k) {
            int number = code.numbers[k];
            int target = code.arguments[k];
            long behind = cycles[k] + COST[number];
            int left = words[k] + GROWTH[number];
            switch (number) {
                case ZERO:
                    reach(target, behind + GOING_THERE, left);
                    reach(k + 1, behind, left);
                    return k + 1;
                case JUMP:
                    if (target > k) {
                        reach(target, behind, left);
                    } else {
                        leaveLoop(code, target, behind - cycles[target]);
                    }
                    return k + 1;
                case LOOP:
                    if (rounds(code, k) == 0) {
                        leaveLoop(code, k, 0);
                        return target;
                    }
                    reach(k + 1, behind, left);
                    return k + 1;
                case CALL:
                    passCall(code, k);
                    return k + 1;
                default:
                    reach(k + 1, behind, left);
                    return k + 1;
            }
        }

        private void passCall(Code code, int k) {
            int p = code.procedureAt(code.arguments[k]);
            if (p != NONE) {
                deepest = Math.max(deepest, words[k] + GROWTH[CALL] + code.depths[p]);
                reach(k + 1, cycles[k] + COST[CALL] + code.times[p], words[k]);
            }
        }

        /** The PUSH or LIMIT ahead of a LOOP says how often it can go on. */
        private static int rounds(Code code, int loop) {
            return loop > 0 ? code.arguments[loop - 1] : 0;
        }

        private void leaveLoop(Code code, int loop, long cyclesOfARound) {
            long all = rounds(code, loop) * cyclesOfARound;
            reach(code.arguments[loop], cycles[loop] + all + COST[LOOP] + GOING_THERE, words[loop] - 1);
        }

        private void reach(int k, long cyclesThere, int wordsThere) {
            if (k >= 0 && k <= MOST_INSTRUCTIONS) {
                cycles[k] = Math.max(cycles[k], cyclesThere);
                words[k] = wordsThere;
                deepest = Math.max(deepest, wordsThere);
            }
        }
    }

    /** The places, the stack and the output, and what is told of the latest run. */
    private static final class Machine {
        final int[] places = new int[PLACES];
        final int[] outputs = new int[KEPT_OUTPUTS];
        // No procedure is open twice, so no two words on the stack are of the same instruction.
        private final int[] stack = new int[MOST_INSTRUCTIONS];
        private int height;
        boolean hasRun;
        int cycles;
        int highest;
        int at;
        int outputCount;

        void forgetRun() {
            hasRun = false;
            outputCount = 0;
        }

        /** 0 if the run came to END, else the TRAP. */
        int carryOut(Code code) {
            hasRun = true;
            height = 0;
            highest = 0;
            cycles = 0;
            at = 0;
            outputCount = 0;
            int state = STILL_RUNNING;
            // Each instruction but END costs a cycle or more, and a program is SHORT.
            for (int n = 0; n <= MOST_TIME && state == STILL_RUNNING; n++) {
                state = step(code);
            }
            return state;
        }

        private int step(Code code) {
            if (at < 0 || at >= code.size || at >= MOST_INSTRUCTIONS) {
                return ENDED;
            }
            int number = code.numbers[at];
            int argument = code.arguments[at];
            cycles += COST[number];
            if (number == END) {
                return ENDED;
            }
            int trap = trapOf(number, argument);
            if (trap != 0) {
                return trap;
            }
            at++;
            if (number <= NEG) {
                compute(number, argument);
            } else {
                steer(number, argument);
            }
            return STILL_RUNNING;
        }

        private int trapOf(int number, int argument) {
            switch (number) {
                case DIV:
                    return below(0) == 0 ? TRAP_DIVISOR : 0;
                case FETCH:
                    return isWord(below(0)) ? 0 : TRAP_WORD;
                case KEEP:
                    return isWord(below(1)) ? 0 : TRAP_WORD;
                case LIMIT:
                    return below(0) > argument ? TRAP_LIMIT : 0;
                default:
                    return 0;
            }
        }

        private static boolean isWord(int word) {
            return word >= 0 && word < WORDS;
        }

        private void compute(int number, int argument) {
            switch (number) {
                case PUSH:
                    push(argument);
                    break;
                case GET:
                    push(placeAt(argument));
                    break;
                case PUT:
                    store(argument, pop());
                    break;
                case FETCH:
                    push(placeAt(VARIABLES + pop()));
                    break;
                case KEEP:
                    int kept = pop();
                    store(VARIABLES + pop(), kept);
                    break;
                case NEG:
                    push(-pop());
                    break;
                default:
                    int t = pop();
                    int u = pop();
                    push(combine(number, u, t));
                    break;
            }
        }

        private static int combine(int number, int u, int t) {
            switch (number) {
                case ADD:
                    return u + t;
                case SUB:
                    return u - t;
                case MUL:
                    return u * t;
                case DIV:
                    return t == 0 ? 0 : u / t;
                case LESS:
                    return u < t ? 1 : 0;
                default:
                    return u == t ? 1 : 0;
            }
        }

        private void steer(int number, int argument) {
            switch (number) {
                case OUT:
                    putOut(pop());
                    break;
                case ZERO:
                    if (pop() == 0) {
                        goThere(argument);
                    }
                    break;
                case JUMP:
                    at = argument;
                    break;
                case LOOP:
                    int left = pop();
                    if (left == 0) {
                        goThere(argument);
                    } else {
                        push(left - 1);
                    }
                    break;
                case LIMIT:
                    push(Math.max(pop(), 0));
                    break;
                case CALL:
                    push(at);
                    at = argument;
                    break;
                default:
                    at = pop();
                    break;
            }
        }

        private void goThere(int target) {
            cycles += GOING_THERE;
            at = target;
        }

        private void putOut(int value) {
            if (outputCount < KEPT_OUTPUTS) {
                outputs[outputCount] = value;
            }
            outputCount++;
        }

        private int placeAt(int place) {
            return place >= 0 && place < PLACES ? places[place] : 0;
        }

        private void store(int place, int value) {
            if (place >= 0 && place < PLACES) {
                places[place] = value;
            }
        }

        private void push(int value) {
            if (height < MOST_INSTRUCTIONS) {
                stack[height] = value;
                height++;
                highest = Math.max(highest, height);
            }
        }

        private int pop() {
            if (height == 0) {
                return 0;
            }
            height--;
            return stack[height];
        }

        /** What lies that many words below the top of the stack. */
        private int below(int count) {
            int place = height - 1 - count;
            return place >= 0 && place < MOST_INSTRUCTIONS ? stack[place] : 0;
        }
    }
}
