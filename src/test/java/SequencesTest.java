import java.util.Random;

/** Long rows of calls made at random on one object, each answer against the Model's. */
public final class SequencesTest {
    private static final int OBJECTS = 4000;
    private static final int[] EDGES = {Integer.MIN_VALUE, -2, -1, 0, 1, 2, 3, 4, 5, 6, 7, 8, 13, 14, 31, 32, 33, 99, 100, 199, 200, Integer.MAX_VALUE};
    private static final String[] NAMES = {"type", "wipe", "length", "compile", "code", "time", "depth", "procedure", "set", "get", "run",
        "latest", "output"};

    private static int programs = 0;
    private static int runs = 0;

    private final Random random;
    private final Maker maker;
    private final Subject x = new Subject();
    private final Model model = new Model();
    private final StringBuilder story = new StringBuilder();

    private SequencesTest(long seed) {
        random = new Random(seed);
        maker = new Maker(seed, random.nextInt(3) == 0 ? 99 : 4);
    }

    private int number() {
        return random.nextInt(3) == 0 ? EDGES[random.nextInt(EDGES.length)] : random.nextInt(16);
    }

    private long part() {
        switch (random.nextInt(6)) {
            case 0:
                return random.nextLong();
            case 1:
                return Check.pack("{}".substring(random.nextInt(2)));
            case 2:
                return Check.pack("aaaaaaaa".substring(random.nextInt(8)));
            default:
                return 0x2100000000000000L >>> 8 * random.nextInt(8);
        }
    }

    private void due(String call, String got, String want) {
        story.append(call).append(" ");
        Check.dueText(got.equals(want) ? call : story.toString(), got, want);
    }

    private void compile() {
        String want = model.compile();
        programs += Check.isNumber(want) ? 1 : 0;
        due("compile", Check.answerOf(x::compile), want);
    }

    private void wipe() {
        x.wipe();
        due("wipe", "0", model.wipe());
    }

    private void run() {
        String want = model.run();
        runs += Check.isNumber(want) ? 1 : 0;
        due("run", Check.answerOf(x::run), want);
    }

    private void typeAProgram() {
        String text = maker.program(5 + random.nextInt(120));
        if (random.nextInt(5) == 0) {
            text = maker.spoiled(text);
        }
        for (int from = 0; from < text.length() && x.callsLeft() > 0; from += 8) {
            long part = Check.pack(text.substring(from, Math.min(from + 8, text.length())));
            due("type(" + part + ")", x.type(part) ? "1" : "0", model.type(part));
        }
    }

    private void call() {
        String name = NAMES[random.nextInt(NAMES.length)];
        int i = number();
        int j = number();
        String shown = name + "(" + i + ", " + j + ")";
        switch (name) {
            case "type" -> {
                long part = part();
                due("type(" + part + ")", x.type(part) ? "1" : "0", model.type(part));
            }
            case "wipe" -> wipe();
            case "length" -> due(name, Check.answerOf(x::length), model.length());
            case "compile" -> compile();
            case "code" -> due(shown, Check.answerOf(() -> x.code(i, j % 3)), model.code(i, j % 3));
            case "time" -> due(name, Check.answerOf(x::time), model.time());
            case "depth" -> due(name, Check.answerOf(x::depth), model.depth());
            case "procedure" -> due(shown, Check.answerOf(() -> x.procedure(i % 6, j % 4)), model.procedure(i % 6, j % 4));
            case "set" -> due(shown, x.set(i, j) ? "1" : "0", model.set(i, j));
            case "get" -> due(shown, Check.answerOf(() -> x.get(i)), model.get(i));
            case "run" -> run();
            case "latest" -> due(shown, Check.answerOf(() -> x.latest(i % 5)), model.latest(i % 5));
            default -> due(shown, Check.answerOf(() -> x.output(i)), model.output(i));
        }
    }

    private void useUp() {
        while (x.callsLeft() > 0) {
            if (random.nextInt(25) > 0) {
                call();
                continue;
            }
            if (random.nextInt(4) > 0) {
                wipe();
            }
            typeAProgram();
            if (x.callsLeft() > 0 && random.nextInt(4) > 0) {
                compile();
            }
        }
    }

    public static void main(String[] args) {
        for (int n = 0; n < OBJECTS; n++) {
            new SequencesTest(n).useUp();
        }
        System.out.println("SequencesTest: " + programs + " programs, " + runs + " runs");
        Check.due("there are many of each", Math.min(programs, runs) > OBJECTS, true);
        Check.finish("SequencesTest");
    }
}
