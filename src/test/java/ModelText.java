import java.util.ArrayList;
import java.util.HashMap;
import java.util.HashSet;
import java.util.List;
import java.util.Map;
import java.util.Set;
import java.util.regex.Matcher;
import java.util.regex.Pattern;

/** The document's language, read into trees, with the first fault thrown. */
final class ModelText {
    static final class Fault extends RuntimeException {
        private static final long serialVersionUID = 1;
        final int what;
        final int place;

        Fault(int what, int place) {
            this.what = what;
            this.place = place;
        }
    }

    static final class Asked {
        final Map<String, Integer> names = new HashMap<>();
        final int[] has = new int[4];
        final int[] soiled = new int[4];
    }

    interface Sum {
        int of(Asked asked);
    }

    record Clause(String word, int a, int b, int c) {
    }

    private record Token(String text, int place) {
        boolean isNumber() {
            return text.matches("[0-9]+");
        }
    }

    private static final Set<String> NAMES =
            Set.of("time", "free", "number", "size", "page", "idle", "holds", "span");

    final List<Clause> clauses = new ArrayList<>();
    Sum wants;
    Sum spares;

    private final List<Token> tokens = new ArrayList<>();
    private int at;
    private String law;

    private ModelText(String written) {
        Matcher m = Pattern.compile("[a-zA-Z]+|[0-9]+|<=|>=|[<>=#+\\-*/();]|[^ \n]", Pattern.DOTALL).matcher(written);
        while (m.find()) {
            tokens.add(new Token(m.group(), m.start()));
        }
        tokens.add(new Token("", written.length()));
    }

    static ModelText read(String written) {
        ModelText t = new ModelText(written);
        t.clauses();
        return t;
    }

    private Token now() {
        return tokens.get(at);
    }

    private boolean isNow(String... texts) {
        for (String text : texts) {
            if (now().text.equals(text)) {
                return true;
            }
        }
        return false;
    }

    private Fault fault(int what) {
        return new Fault(what, now().place);
    }

    private void must(String text) {
        if (!isNow(text)) {
            throw fault(1);
        }
        at++;
    }

    private int number(int least, int most) {
        if (!now().isNumber()) {
            throw fault(1);
        }
        java.math.BigInteger n = new java.math.BigInteger(now().text);
        if (n.compareTo(java.math.BigInteger.valueOf(least)) < 0 || n.compareTo(java.math.BigInteger.valueOf(most)) > 0) {
            throw fault(2);
        }
        at++;
        return n.intValue();
    }

    private void clauses() {
        Set<String> seen = new HashSet<>();
        Set<String> words = Set.of("wants", "spares", "object", "touch", "write", "sweep", "empty", "drop", "day");
        while (!isNow("")) {
            String word = now().text;
            if (!words.contains(word)) {
                throw fault(1);
            }
            boolean isLaw = word.equals("wants") || word.equals("spares");
            if (isLaw && !seen.add(word)) {
                throw fault(4);
            }
            if (clauses.size() == 24) {
                throw fault(6);
            }
            at++;
            int a = 0;
            int b = 0;
            int c = 0;
            if (isLaw) {
                law = word;
                Sum sum = sum(0);
                if (word.equals("wants")) {
                    wants = sum;
                } else {
                    spares = sum;
                }
            } else if (word.equals("object")) {
                a = number(1, 32);
            } else if (word.equals("touch") || word.equals("write")) {
                a = number(0, 31);
                must("of");
                b = number(0, 3);
                if (word.equals("write")) {
                    must("by");
                    c = number(0, 99);
                }
            } else if (word.equals("empty")) {
                a = number(1, 16);
            } else if (word.equals("day")) {
                a = number(1, 60);
            } else {
                a = number(0, 3);
            }
            must(";");
            clauses.add(new Clause(word, a, b, c));
        }
    }

    private static int held(long v) {
        return (int) (v > 1000000 ? 1000000 : v < -1000000 ? -1000000 : v);
    }

    private Sum sum(int open) {
        Sum left = product(open);
        while (isNow("+", "-")) {
            boolean plus = isNow("+");
            at++;
            Sum a = left;
            Sum b = product(open);
            left = plus ? x -> held((long) a.of(x) + b.of(x)) : x -> held((long) a.of(x) - b.of(x));
        }
        return left;
    }

    private Sum product(int open) {
        Sum left = one(open);
        while (isNow("*", "/")) {
            boolean times = isNow("*");
            at++;
            Sum a = left;
            Sum b = one(open);
            left = times ? x -> held((long) a.of(x) * b.of(x)) : x -> b.of(x) == 0 ? 0 : a.of(x) / b.of(x);
        }
        return left;
    }

    private void open(int open) {
        if (open == 8) {
            throw fault(3);
        }
        at++;
    }

    private Sum one(int open) {
        if (now().isNumber()) {
            int n = number(0, 9999);
            return x -> n;
        }
        String word = now().text;
        if (NAMES.contains(word)) {
            boolean ofSpares = Set.of("idle", "holds", "span").contains(word);
            if (word.equals("page") && law.equals("spares") || ofSpares && law.equals("wants")) {
                throw fault(5);
            }
            at++;
            return x -> x.names.get(word);
        }
        switch (word) {
            case "(": {
                open(open);
                Sum inner = sum(open + 1);
                must(")");
                return inner;
            }
            case "-": {
                open(open);
                Sum inner = one(open + 1);
                return x -> -inner.of(x);
            }
            case "has":
            case "soiled": {
                open(open);
                Sum inner = one(open + 1);
                return x -> {
                    int o = inner.of(x);
                    return o < 0 || o > 3 ? 0 : word.equals("has") ? x.has[o] : x.soiled[o];
                };
            }
            case "if": {
                open(open);
                Sum either = either(open + 1);
                must("then");
                Sum yes = sum(open + 1);
                must("else");
                Sum no = sum(open + 1);
                must("end");
                return x -> either.of(x) == 1 ? yes.of(x) : no.of(x);
            }
            default:
                throw fault(1);
        }
    }

    private Sum either(int open) {
        Sum left = both(open);
        while (isNow("or")) {
            at++;
            Sum a = left;
            Sum b = both(open);
            left = x -> Math.max(a.of(x), b.of(x));
        }
        return left;
    }

    private Sum both(int open) {
        Sum left = ask(open);
        while (isNow("and")) {
            at++;
            Sum a = left;
            Sum b = ask(open);
            left = x -> Math.min(a.of(x), b.of(x));
        }
        return left;
    }

    private Sum ask(int open) {
        if (isNow("not")) {
            open(open);
            Sum inner = ask(open + 1);
            return x -> 1 - inner.of(x);
        }
        Sum a = sum(open);
        String sign = now().text;
        if (!isNow("<", "<=", ">", ">=", "=", "#")) {
            throw fault(1);
        }
        at++;
        Sum b = sum(open);
        return x -> {
            int l = a.of(x);
            int r = b.of(x);
            boolean so = switch (sign) {
                case "<" -> l < r;
                case "<=" -> l <= r;
                case ">" -> l > r;
                case ">=" -> l >= r;
                case "=" -> l == r;
                default -> l != r;
            };
            return so ? 1 : 0;
        };
    }
}
