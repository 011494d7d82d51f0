/** A TimedCompiler that is used only as the document lets it be: for at most 512 calls. */
final class Subject {
    static final int MOST_CALLS = 512;

    private final TimedCompiler inside = new TimedCompiler();
    private int calls = 0;

    /** An Error and no exception: no test takes it for an answer. */
    private TimedCompiler called() {
        if (calls == MOST_CALLS) {
            throw new AssertionError("a test makes more than " + MOST_CALLS + " calls on one object");
        }
        calls++;
        return inside;
    }

    int callsLeft() {
        return MOST_CALLS - calls;
    }

    boolean type(long part) {
        return called().type(part);
    }

    void wipe() {
        called().wipe();
    }

    int length() {
        return called().length();
    }

    int compile() {
        return called().compile();
    }

    int code(int k, int w) {
        return called().code(k, w);
    }

    int time() {
        return called().time();
    }

    int depth() {
        return called().depth();
    }

    int procedure(int p, int w) {
        return called().procedure(p, w);
    }

    boolean set(int i, int v) {
        return called().set(i, v);
    }

    int get(int i) {
        return called().get(i);
    }

    int run() {
        return called().run();
    }

    int latest(int w) {
        return called().latest(w);
    }

    int output(int k) {
        return called().output(k);
    }
}
