import java.math.BigInteger;
import java.util.ArrayList;
import java.util.List;
import java.util.TreeMap;

/**
 * A second compiler and machine, written for the tests in another way than the class: a tree is
 * made of the text, and depth, code, TIME and DEPTH are each found by a walk over the tree.
 */
final class Oracle {
    /** The text is no program. */
    static final class NoProgram extends RuntimeException {
        private static final long serialVersionUID = 1L;
    }

    /** It is one that is not PLAIN or not SHORT. */
    static final class Refused extends RuntimeException {
        private static final long serialVersionUID = 1L;
    }

    private static final int[] COST = {1, 2, 2, 4, 4, 1, 1, 5, 20, 1, 1, 1, 6, 1, 2, 1, 2, 4, 3, 0};

    /** kind: '0' number, 'a' variable, '[', '(', '~' (minus of a unit), or an operator. */
    private record Value(char kind, int n, Value left, Value right) {
        int deep() {
            int inside = Math.max(left == null ? 0 : left.deep(), right == null ? 0 : right.deep());
            return inside + (kind == '[' || kind == '(' || kind == '~' ? 1 : 0);
        }

        void code(List<int[]> to) {
            if (left != null) {
                left.code(to);
            }
            if (right != null) {
                right.code(to);
            }
            switch (kind) {
                case '0' -> to.add(new int[] {0, n});
                case 'a' -> to.add(new int[] {1, n});
                case '[' -> to.add(new int[] {3, 0});
                case '(' -> { }
                case '~' -> to.add(new int[] {11, 0});
                default -> to.add(new int[] {5 + "+-*/<=".indexOf(kind), 0});
            }
        }

        int time() {
            List<int[]> all = new ArrayList<>();
            code(all);
            int sum = 0;
            for (int[] instruction : all) {
                sum += COST[instruction[0]];
            }
            return sum;
        }

        int depth() {
            if (left == null) {
                return 1;
            }
            return right == null ? left.depth() : Math.max(left.depth(), 1 + right.depth());
        }
    }

    /** kind: 'a' variable, '[' word, '!', '?', '#' (its value null if it has a number alone), 'A' call. */
    private record Statement(char kind, int n, Value value, Value second, List<Statement> block, List<Statement> other) {
    }

    private final String text;
    private int at = 0;
    private final TreeMap<Character, List<Statement>> units = new TreeMap<>();
    private final TreeMap<Character, Integer> firsts = new TreeMap<>();
    private final TreeMap<Character, BigInteger> times = new TreeMap<>();
    private final TreeMap<Character, Integer> depths = new TreeMap<>();
    final List<int[]> code = new ArrayList<>();

    Oracle(String text) {
        this.text = text;
        while (at < text.length() && text.charAt(at) >= 'A' && text.charAt(at) <= 'D') {
            char name = next();
            need(!units.containsKey(name));
            units.put(name, block());
        }
        units.put('@', block());
        need(at == text.length());
        for (List<Statement> unit : units.values()) {
            need(1 + deepest(unit) <= 6);
            needCalled(unit);
        }
        for (char name : units.keySet()) {
            if (reaches(name, name, 0)) {
                throw new Refused();
            }
        }
        place();
        for (char name : units.keySet()) {
            if (timeOf(name).compareTo(BigInteger.valueOf(20000)) > 0) {
                throw new Refused();
            }
        }
        if (code.size() > 200) {
            throw new Refused();
        }
    }

    int first(int p) {
        return firsts.getOrDefault((char) ('A' + p), -1);
    }

    int time(int p) {
        char name = (char) ('A' + p);
        return units.containsKey(name) ? timeOf(name).intValueExact() : -1;
    }

    int depth(int p) {
        char name = (char) ('A' + p);
        return units.containsKey(name) ? depthOf(name) : -1;
    }

    // reading

    private static void need(boolean so) {
        if (!so) {
            throw new NoProgram();
        }
    }

    private char peek() {
        return at < text.length() ? text.charAt(at) : ' ';
    }

    private char next() {
        need(at < text.length());
        return text.charAt(at++);
    }

    private void need(char c) {
        need(next() == c);
    }

    private List<Statement> block() {
        need('{');
        List<Statement> all = new ArrayList<>();
        while (peek() != '}') {
            all.add(statement());
        }
        next();
        return all;
    }

    private Statement statement() {
        char c = next();
        if (c >= 'a' && c <= 'f') {
            need('=');
            return ended(new Statement('a', c - 'a', value(), null, null, null));
        }
        if (c >= 'A' && c <= 'D') {
            return ended(new Statement('A', c, null, null, null, null));
        }
        switch (c) {
            case '[': {
                Value place = value();
                need(']');
                need('=');
                return ended(new Statement('[', 0, new Value('(', 0, place, null), value(), null, null));
            }
            case '!':
                return ended(new Statement('!', 0, value(), null, null, null));
            case '?': {
                Value asked = value();
                List<Statement> block = block();
                return new Statement('?', 0, asked, null, block, peek() == '{' ? block() : null);
            }
            case '#': {
                Value sum = sum();
                if (peek() == '{' && sum.kind == '0') {
                    need(sum.n <= 99);
                    return new Statement('#', sum.n, null, null, block(), null);
                }
                need('<');
                int n = number();
                need(n <= 99);
                return new Statement('#', n, sum, null, block(), null);
            }
            default:
                throw new NoProgram();
        }
    }

    private Statement ended(Statement statement) {
        need(';');
        return statement;
    }

    private int number() {
        int from = at;
        while (Character.isDigit(peek())) {
            at++;
        }
        need(at > from && at <= from + 3);
        return Integer.parseInt(text.substring(from, at));
    }

    private Value value() {
        Value left = sum();
        return peek() == '<' || peek() == '=' ? new Value(next(), 0, left, sum()) : left;
    }

    private Value sum() {
        Value left = product();
        while (peek() == '+' || peek() == '-') {
            left = new Value(next(), 0, left, product());
        }
        return left;
    }

    private Value product() {
        Value left = unit();
        while (peek() == '*' || peek() == '/') {
            left = new Value(next(), 0, left, unit());
        }
        return left;
    }

    private Value unit() {
        char c = peek();
        if (Character.isDigit(c)) {
            return new Value('0', number(), null, null);
        }
        next();
        if (c >= 'a' && c <= 'f') {
            return new Value('a', c - 'a', null, null);
        }
        if (c == '-') {
            return new Value('~', 0, unit(), null);
        }
        need(c == '[' || c == '(');
        Value inside = value();
        need(c == '[' ? ']' : ')');
        return new Value(c, 0, inside, null);
    }

    // looking at the tree

    private static int deepest(List<Statement> block) {
        int most = 0;
        for (Statement s : block) {
            most = Math.max(most, s.value == null ? 0 : s.value.deep());
            most = Math.max(most, s.second == null ? 0 : s.second.deep());
            most = Math.max(most, s.block == null ? 0 : 1 + deepest(s.block));
            most = Math.max(most, s.other == null ? 0 : 1 + deepest(s.other));
        }
        return most;
    }

    private void calls(List<Statement> block, List<Character> to) {
        for (Statement s : block) {
            if (s.kind == 'A') {
                to.add((char) s.n);
            }
            if (s.block != null) {
                calls(s.block, to);
            }
            if (s.other != null) {
                calls(s.other, to);
            }
        }
    }

    private void needCalled(List<Statement> unit) {
        List<Character> called = new ArrayList<>();
        calls(unit, called);
        need(units.keySet().containsAll(called));
    }

    private boolean reaches(char from, char to, int steps) {
        if (steps > 5) {
            return false;
        }
        List<Character> called = new ArrayList<>();
        calls(units.get(from), called);
        for (char name : new java.util.TreeSet<>(called)) {
            if (name == to || reaches(name, to, steps + 1)) {
                return true;
            }
        }
        return false;
    }

    // code

    private static int sizeOf(Value value) {
        List<int[]> all = new ArrayList<>();
        value.code(all);
        return all.size();
    }

    private static int sizeOf(List<Statement> block) {
        int size = 0;
        for (Statement s : block) {
            size += s.value == null ? 0 : sizeOf(s.value);
            size += s.second == null ? 0 : sizeOf(s.second);
            size += s.block == null ? 0 : sizeOf(s.block);
            size += s.other == null ? 0 : sizeOf(s.other);
            size += switch (s.kind) {
                case '#' -> 3;
                case '?' -> s.other == null ? 1 : 2;
                default -> 1;
            };
        }
        return size;
    }

    /** '@' is ahead of the letters, so the last block comes first. */
    private void place() {
        int first = 0;
        for (char name : units.keySet()) {
            firsts.put(name, first);
            first += sizeOf(units.get(name)) + 1;
        }
        for (char name : units.keySet()) {
            write(units.get(name));
            code.add(new int[] {name == '@' ? 19 : 18, 0});
        }
    }

    private void write(List<Statement> block) {
        for (Statement s : block) {
            if (s.value != null) {
                s.value.code(code);
            }
            if (s.second != null) {
                s.second.code(code);
            }
            switch (s.kind) {
                case 'a' -> code.add(new int[] {2, s.n});
                case '[' -> code.add(new int[] {4, 0});
                case '!' -> code.add(new int[] {12, 0});
                case 'A' -> code.add(new int[] {17, firsts.get((char) s.n)});
                case '?' -> writeChoice(s);
                default -> {
                    code.add(new int[] {s.value == null ? 0 : 16, s.n});
                    int loop = code.size();
                    code.add(new int[] {15, loop + sizeOf(s.block) + 2});
                    write(s.block);
                    code.add(new int[] {14, loop});
                }
            }
        }
    }

    private void writeChoice(Statement s) {
        int zero = code.size();
        int behind = zero + 1 + sizeOf(s.block) + (s.other == null ? 0 : 1);
        code.add(new int[] {13, behind});
        write(s.block);
        if (s.other != null) {
            code.add(new int[] {14, behind + sizeOf(s.other)});
            write(s.other);
        }
    }

    // TIME and DEPTH

    private BigInteger timeOf(char name) {
        if (!times.containsKey(name)) {
            times.put(name, timeOf(units.get(name)).add(BigInteger.valueOf(name == '@' ? 0 : 3)));
        }
        return times.get(name);
    }

    private BigInteger timeOf(List<Statement> block) {
        BigInteger sum = BigInteger.ZERO;
        for (Statement s : block) {
            sum = sum.add(BigInteger.valueOf(s.value == null ? 0 : s.value.time()));
            sum = sum.add(BigInteger.valueOf(s.second == null ? 0 : s.second.time()));
            sum = sum.add(switch (s.kind) {
                case 'a' -> BigInteger.TWO;
                case '[' -> BigInteger.valueOf(4);
                case '!' -> BigInteger.valueOf(6);
                case 'A' -> timeOf((char) s.n).add(BigInteger.valueOf(4));
                case '?' -> {
                    BigInteger first = timeOf(s.block).add(BigInteger.valueOf(s.other == null ? 1 : 3));
                    BigInteger second = BigInteger.valueOf(3).add(s.other == null ? BigInteger.ZERO : timeOf(s.other));
                    yield first.max(second);
                }
                default -> timeOf(s.block).add(BigInteger.valueOf(3)).multiply(BigInteger.valueOf(s.n))
                        .add(BigInteger.valueOf(s.value == null ? 4 : 5));
            });
        }
        return sum;
    }

    private int depthOf(char name) {
        if (!depths.containsKey(name)) {
            depths.put(name, depthOf(units.get(name)));
        }
        return depths.get(name);
    }

    private int depthOf(List<Statement> block) {
        int most = 0;
        for (Statement s : block) {
            most = Math.max(most, s.value == null ? 0 : s.value.depth());
            most = Math.max(most, s.second == null ? 0 : 1 + s.second.depth());
            if (s.kind == 'A') {
                most = Math.max(most, 1 + depthOf((char) s.n));
            } else if (s.kind == '?') {
                most = Math.max(most, Math.max(depthOf(s.block), s.other == null ? 0 : depthOf(s.other)));
            } else if (s.kind == '#') {
                most = Math.max(most, s.n == 0 ? 1 : 1 + depthOf(s.block));
            }
        }
        return most;
    }

    // the machine

    /** Runs the program on these places: its answer, the four of latest, and the values put out. */
    List<Integer> run(int[] places) {
        List<Integer> stack = new ArrayList<>();
        List<Integer> out = new ArrayList<>();
        int cycles = 0;
        int most = 0;
        int k = 0;
        int trap = -1;
        while (trap < 0) {
            int number = code.get(k)[0];
            int argument = code.get(k)[1];
            int t = stack.isEmpty() ? 0 : stack.get(stack.size() - 1);
            int u = stack.size() < 2 ? 0 : stack.get(stack.size() - 2);
            cycles += COST[number];
            trap = number == 19 ? 0 : trapOf(number, argument, t, u);
            if (trap >= 0) {
                break;
            }
            int go = k + 1;
            switch (number) {
                case 0 -> stack.add(argument);
                case 1 -> stack.add(places[argument]);
                case 2 -> places[argument] = drop(stack, 1);
                case 3 -> stack.set(stack.size() - 1, places[6 + t]);
                case 4 -> places[6 + u] = drop(stack, 2);
                case 11 -> stack.set(stack.size() - 1, -t);
                case 12 -> out.add(drop(stack, 1));
                case 13 -> go = drop(stack, 1) == 0 ? argument : go;
                case 14 -> go = argument;
                case 15 -> go = t == 0 ? argument : go;
                case 16 -> stack.set(stack.size() - 1, t < 0 ? 0 : t);
                case 17 -> {
                    stack.add(go);
                    go = argument;
                }
                case 18 -> go = drop(stack, 1);
                default -> {
                    drop(stack, 2);
                    stack.add(operate(number, u, t));
                }
            }
            if (number == 15) {
                drop(stack, 1);
                if (t != 0) {
                    stack.add(t - 1);
                }
            }
            cycles += (number == 13 || number == 15) && t == 0 ? 2 : 0;
            most = Math.max(most, stack.size());
            k = go;
        }
        List<Integer> told = new ArrayList<>(List.of(trap, cycles, most, k, out.size()));
        told.addAll(out);
        return told;
    }

    private static int drop(List<Integer> stack, int count) {
        int top = stack.get(stack.size() - 1);
        for (int i = 0; i < count; i++) {
            stack.remove(stack.size() - 1);
        }
        return top;
    }

    private static int trapOf(int number, int argument, int t, int u) {
        if (number == 8 && t == 0) {
            return 1;
        }
        if (number == 3 && (t & ~7) != 0 || number == 4 && (u & ~7) != 0) {
            return 2;
        }
        return number == 16 && t > argument ? 3 : -1;
    }

    private static int operate(int number, int u, int t) {
        return switch (number) {
            case 5 -> u + t;
            case 6 -> u - t;
            case 7 -> u * t;
            case 8 -> (int) ((long) u / t);
            case 9 -> u < t ? 1 : 0;
            case 10 -> u == t ? 1 : 0;
            default -> throw new IllegalStateException("instruction " + number);
        };
    }
}
