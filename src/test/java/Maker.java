import java.util.Random;

/** Makes texts of programs, and texts that are nearly programs. */
final class Maker {
    private static final String LETTERS = "{}[]()ABCDabcdef0123456789;=<+-*/!?#Eg~";
    private final Random random;
    private StringBuilder text;
    private int room;
    private int names;
    private int ready;
    private final int mostRounds;

    Maker(long seed, int mostRounds) {
        random = new Random(seed);
        this.mostRounds = mostRounds;
    }

    /** A program of at most about so many characters, or nearly one: depth and calls may be wrong. */
    String program(int size) {
        text = new StringBuilder();
        int count = random.nextInt(3) == 0 ? 0 : random.nextInt(5);
        room = size / (count + 1);
        names = count;
        // Mostly, a procedure calls only those that are written already.
        String order = random.nextBoolean() ? "ABCD" : random.nextBoolean() ? "DCBA" : "BDAC";
        for (ready = 0; ready < count; ready++) {
            text.append(order.charAt(ready));
            int end = text.length() + size / (count + 1);
            room = end;
            block(1, order);
        }
        room = size;
        block(1, order);
        return text.toString();
    }

    String spoiled(String whole) {
        StringBuilder changed = new StringBuilder(whole);
        int changes = 1 + random.nextInt(3);
        for (int i = 0; i < changes && changed.length() > 0; i++) {
            int place = random.nextInt(changed.length());
            char letter = LETTERS.charAt(random.nextInt(LETTERS.length()));
            switch (random.nextInt(4)) {
                case 0 -> changed.deleteCharAt(place);
                case 1 -> changed.insert(place, letter);
                case 2 -> changed.setCharAt(place, letter);
                default -> changed.setCharAt(place, changed.charAt(random.nextInt(changed.length())));
            }
        }
        return changed.toString();
    }

    private boolean full() {
        return text.length() >= room;
    }

    private void block(int deep, String order) {
        text.append('{');
        int count = random.nextInt(deep == 1 ? 7 : 4);
        for (int i = 0; i < count && !full(); i++) {
            statement(deep, order);
        }
        text.append('}');
    }

    private void statement(int deep, String order) {
        boolean deeper = deep < 6 || random.nextInt(60) == 0;
        switch (random.nextInt(9)) {
            case 0, 1 -> {
                text.append((char) ('a' + random.nextInt(6))).append('=');
                value(deep);
                text.append(';');
            }
            case 2 -> {
                text.append('!');
                value(deep);
                text.append(';');
            }
            case 3 -> {
                if (deeper) {
                    text.append('[');
                    value(deep + 1);
                    text.append("]=");
                    value(deep);
                    text.append(';');
                }
            }
            case 4, 5 -> {
                if (deeper) {
                    text.append('?');
                    value(deep);
                    block(deep + 1, order);
                    if (random.nextBoolean()) {
                        block(deep + 1, order);
                    }
                }
            }
            case 6, 7 -> {
                if (deeper) {
                    loop(deep, order);
                }
            }
            default -> call(order);
        }
    }

    private void loop(int deep, String order) {
        text.append('#');
        if (random.nextBoolean()) {
            sum(deep);
            text.append('<');
        }
        text.append(random.nextInt(mostRounds + 1));
        block(deep + 1, order);
    }

    private void call(String order) {
        int among = random.nextInt(40) == 0 ? 4 : random.nextInt(40) == 0 ? names : ready;
        if (among > 0) {
            text.append(order.charAt(random.nextInt(among))).append(';');
        }
    }

    private void value(int deep) {
        sum(deep);
        int compare = random.nextInt(6);
        if (compare < 2) {
            text.append(compare == 0 ? '<' : '=');
            sum(deep);
        }
    }

    private void sum(int deep) {
        unit(deep);
        while (!full() && random.nextInt(3) == 0) {
            text.append("+-*/".charAt(random.nextInt(4)));
            unit(deep);
        }
    }

    private void unit(int deep) {
        int kind = random.nextInt(9);
        boolean deeper = deep < 6 || random.nextInt(60) == 0;
        if (kind < 3 || full() || !deeper && kind > 5) {
            text.append(random.nextInt(4) == 0 ? random.nextInt(1000) : random.nextInt(9));
        } else if (kind < 6) {
            text.append((char) ('a' + random.nextInt(6)));
        } else if (kind == 6) {
            text.append('-');
            unit(deep + 1);
        } else {
            text.append(kind == 7 ? '(' : '[');
            value(deep + 1);
            text.append(kind == 7 ? ')' : ']');
        }
    }
}
