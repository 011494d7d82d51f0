import java.util.List;

/** What an object must answer, call after call: the state by itself, programs and runs by the Oracle. */
final class Model {
    private final StringBuilder text = new StringBuilder();
    private final int[] places = new int[14];
    private Oracle program = null;
    private List<Integer> latestRun = null;

    String type(long part) {
        StringBuilder fresh = new StringBuilder();
        for (int i = 0; i < 8; i++) {
            int letter = (int) (part >>> 56 - 8 * i & 255);
            if (letter != 0) {
                fresh.append((char) letter);
            }
        }
        boolean fits = fresh.chars().allMatch(letter -> letter > 32 && letter < 127) && text.length() + fresh.length() <= 200;
        if (fits) {
            text.append(fresh);
        }
        return fits ? "1" : "0";
    }

    String wipe() {
        text.setLength(0);
        return "0";
    }

    String length() {
        return Integer.toString(text.length());
    }

    String compile() {
        try {
            program = new Oracle(text.toString());
        } catch (Oracle.NoProgram e) {
            return Check.NO_TEXT_OF_A_PROGRAM;
        } catch (Oracle.Refused e) {
            return Check.NOT_PLAIN_OR_SHORT;
        }
        text.setLength(0);
        latestRun = null;
        return Integer.toString(program.code.size());
    }

    String code(int k, int w) {
        if (program == null) {
            return Check.NO_PROGRAM;
        }
        boolean there = k >= 0 && k < program.code.size() && (w == 0 || w == 1);
        return there ? Integer.toString(program.code.get(k)[w]) : "-1";
    }

    String time() {
        return program == null ? Check.NO_PROGRAM : Integer.toString(program.time(-1));
    }

    String depth() {
        return program == null ? Check.NO_PROGRAM : Integer.toString(program.depth(-1));
    }

    String procedure(int p, int w) {
        if (program == null) {
            return Check.NO_PROGRAM;
        }
        if (p < 0 || p > 3) {
            return "-1";
        }
        return Integer.toString(w == 0 ? program.first(p) : w == 1 ? program.time(p) : w == 2 ? program.depth(p) : -1);
    }

    String set(int i, int v) {
        if (i < 0 || i >= places.length) {
            return "0";
        }
        places[i] = v;
        return "1";
    }

    String get(int i) {
        return i < 0 || i >= places.length ? Check.NO_SUCH : Integer.toString(places[i]);
    }

    String run() {
        if (program == null) {
            return Check.NO_PROGRAM;
        }
        latestRun = program.run(places);
        return latestRun.get(0).toString();
    }

    String latest(int w) {
        return latestRun == null || w < 0 || w > 3 ? "-1" : latestRun.get(w + 1).toString();
    }

    String output(int k) {
        boolean there = latestRun != null && k >= 0 && k < 32 && k < latestRun.get(4);
        return there ? latestRun.get(5 + k).toString() : Check.NO_SUCH;
    }
}
