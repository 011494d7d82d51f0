import java.util.HashMap;
import java.util.Map;

/**
 * The document's grammar as it is written there, tried on a text without any choice made ahead: a
 * rule takes a set of beginnings (bit i is that ahead of character i) and tells the set of its ends.
 */
final class Grammar {
    static final int MOST_LETTERS = 62;
    private static final int DEEPEST = 6;

    // Quoted characters are meant as they are, ^ says that the rest of its part stands one deeper.
    // { } is any number of times, [ ] once or not at all, as in the document; rounds is the number
    // of a loop.
    private static final String[] RULES = {
        "program = { procedure } block",
        "procedure = name block",
        "block = ^ '{' { statement } '}'",
        "name = 'A' or 'B' or 'C' or 'D'",
        "statement = place '=' value ';' or '!' value ';' or '?' value block [ block ] or '#' rounds block"
            + " or '#' sum '<' rounds block or name ';'",
        "place = variable or ^ '[' value ']'",
        "variable = 'a' or 'b' or 'c' or 'd' or 'e' or 'f'",
        "value = sum [ '<' sum ] or sum '=' sum",
        "sum = product { '+' product or '-' product }",
        "product = unit { '*' unit or '/' unit }",
        "unit = number or variable or ^ '[' value ']' or ^ '(' value ')' or ^ '-' unit",
        "number = digit [ digit [ digit ] ]",
        "rounds = digit [ digit ] or '0' digit digit",
        "digit = '0' or '1' or '2' or '3' or '4' or '5' or '6' or '7' or '8' or '9'",
    };

    private interface Rule {
        long ends(String text, long begins, int deep);
    }

    private static final Map<String, Rule> NAMED = named();

    private final String[] words;
    private int at = 2;

    private Grammar(String rule) {
        words = rule.split(" ");
    }

    private static Map<String, Rule> named() {
        Map<String, Rule> all = new HashMap<>();
        for (String rule : RULES) {
            Grammar read = new Grammar(rule);
            all.put(read.words[0], read.parts());
        }
        return all;
    }

    static boolean isProgram(String text) {
        return (NAMED.get("program").ends(text, 1L, 0) >> text.length() & 1) != 0 && namesAreRight(text);
    }

    /** In what the rules take, a name has its block behind it or is called. */
    private static boolean namesAreRight(String text) {
        for (char name = 'A'; name <= 'D'; name++) {
            int procedures = text.split(name + "\\{", -1).length - 1;
            boolean called = text.contains(name + ";");
            if (procedures > 1 || called && procedures == 0) {
                return false;
            }
        }
        return true;
    }

    private Rule parts() {
        Rule all = sequence();
        while (at < words.length && words[at].equals("or")) {
            at++;
            Rule one = all;
            Rule other = sequence();
            all = (text, begins, deep) -> one.ends(text, begins, deep) | other.ends(text, begins, deep);
        }
        return all;
    }

    private Rule sequence() {
        Rule all = (text, begins, deep) -> begins;
        while (at < words.length && !words[at].equals("or") && !words[at].equals("}") && !words[at].equals("]")) {
            Rule head = all;
            if (words[at].equals("^")) {
                at++;
                Rule rest = sequence();
                return (text, begins, deep) -> deep == DEEPEST ? 0 : rest.ends(text, head.ends(text, begins, deep), deep + 1);
            }
            Rule next = word();
            all = (text, begins, deep) -> next.ends(text, head.ends(text, begins, deep), deep);
        }
        return all;
    }

    private Rule word() {
        String word = words[at++];
        if (word.startsWith("'")) {
            return (text, begins, deep) -> behindLetter(text, begins, word.charAt(1));
        }
        if (word.equals("[")) {
            Rule inside = parts();
            at++;
            return (text, begins, deep) -> begins | inside.ends(text, begins, deep);
        }
        if (word.equals("{")) {
            Rule inside = parts();
            at++;
            return (text, begins, deep) -> anyNumberOfTimes(inside, text, begins, deep);
        }
        return (text, begins, deep) -> begins == 0 ? 0 : NAMED.get(word).ends(text, begins, deep);
    }

    private static long behindLetter(String text, long begins, char letter) {
        long ends = 0;
        for (int i = 0; i < text.length(); i++) {
            if ((begins >> i & 1) != 0 && text.charAt(i) == letter) {
                ends |= 1L << i + 1;
            }
        }
        return ends;
    }

    private static long anyNumberOfTimes(Rule inside, String text, long begins, int deep) {
        long all = begins;
        long last = begins;
        while (last != 0) {
            last = inside.ends(text, last, deep) & ~all;
            all |= last;
        }
        return all;
    }
}
