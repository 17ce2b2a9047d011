import java.util.ArrayList;
import java.util.List;
import java.util.function.ToLongFunction;
import java.util.regex.Matcher;
import java.util.regex.Pattern;

/** The two languages of the document, read into trees; the first token that can't go on is thrown. */
final class ModelReader {
    private static final Pattern TOKEN = Pattern.compile("[a-z]+|[0-9]+|[^ ]", Pattern.DOTALL);

    private final List<String> tokens = new ArrayList<>();
    private final List<Integer> places = new ArrayList<>();
    private final boolean laws;
    private int at = 0;
    private int parts = 0;
    private int open = 0;

    ModelReader(String text, boolean laws) {
        this.laws = laws;
        Matcher matcher = TOKEN.matcher(text);
        while (matcher.find()) {
            tokens.add(matcher.group());
            places.add(matcher.start());
        }
        tokens.add("");
        places.add(text.length());
    }

    private String token() {
        return tokens.get(at);
    }

    private Model.Fault fault() {
        return new Model.Fault(places.get(at));
    }

    private boolean has(String token) {
        if (token().equals(token)) {
            at++;
            return true;
        }
        return false;
    }

    private void must(String token) throws Model.Fault {
        if (!has(token)) {
            throw fault();
        }
    }

    private int number(int low, int high) throws Model.Fault {
        if (!token().matches("[0-9]+")) {
            throw fault();
        }
        java.math.BigInteger value = new java.math.BigInteger(token());
        if (value.bitLength() > 20 || value.intValue() < low || value.intValue() > high) {
            throw fault();
        }
        at++;
        return value.intValue();
    }

    List<Model.Clause> clauses() throws Model.Fault {
        List<Model.Clause> all = new ArrayList<>();
        do {
            if (all.size() == 12) {
                throw fault();
            }
            all.add(clause());
        } while (has(";"));
        must("");
        return all;
    }

    private Model.Clause clause() throws Model.Fault {
        Model.Clause c = new Model.Clause();
        c.verb = token();
        boolean known = laws ? List.of("counts", "sheds", "bars").contains(c.verb)
                : List.of("put", "take", "pad", "pass").contains(c.verb);
        if (!known) {
            throw fault();
        }
        at++;
        if (!List.of("bars", "pass").contains(c.verb)) {
            c.first = sum();
        }
        if (c.verb.equals("put")) {
            must("at");
            c.second = sum();
        }
        if (c.verb.equals("pad")) {
            must("to");
            c.second = sum();
        }
        if (!laws && has("times")) {
            c.times = number(1, 20);
        }
        if (has("if")) {
            c.test = test();
        }
        return c;
    }

    private ToLongFunction<Model.Words> test() throws Model.Fault {
        ToLongFunction<Model.Words> left = both();
        while (has("or")) {
            ToLongFunction<Model.Words> l = left;
            ToLongFunction<Model.Words> r = both();
            left = w -> l.applyAsLong(w) == 1 ? 1 : r.applyAsLong(w);
        }
        return left;
    }

    private ToLongFunction<Model.Words> both() throws Model.Fault {
        ToLongFunction<Model.Words> left = plain();
        while (has("and")) {
            ToLongFunction<Model.Words> l = left;
            ToLongFunction<Model.Words> r = plain();
            left = w -> l.applyAsLong(w) == 0 ? 0 : r.applyAsLong(w);
        }
        return left;
    }

    private void bracket() throws Model.Fault {
        if (open == 8) {
            throw fault();
        }
        open++;
        at++;
    }

    private ToLongFunction<Model.Words> plain() throws Model.Fault {
        if (has("not")) {
            ToLongFunction<Model.Words> of = plain();
            return w -> 1 - of.applyAsLong(w);
        }
        if (token().equals("(")) {
            bracket();
            ToLongFunction<Model.Words> of = test();
            must(")");
            open--;
            return of;
        }
        ToLongFunction<Model.Words> l = sum();
        String sign = token();
        if (!List.of("<", ">", "=").contains(sign)) {
            throw fault();
        }
        at++;
        ToLongFunction<Model.Words> r = sum();
        return w -> {
            int compared = Long.compare(l.applyAsLong(w), r.applyAsLong(w));
            return (sign.equals("<") ? compared < 0 : sign.equals(">") ? compared > 0 : compared == 0) ? 1 : 0;
        };
    }

    private static long reckon(String sign, long a, long b) {
        if (b == 0 && (sign.equals("/") || sign.equals("%"))) {
            throw new Model.Broken();
        }
        long came = switch (sign) {
            case "+" -> a + b;
            case "-" -> a - b;
            case "*" -> a * b;
            case "/" -> a / b;
            default -> a - a / b * b;
        };
        if (Math.abs(came) > 1000000000L) {
            throw new Model.Broken();
        }
        return came;
    }

    private ToLongFunction<Model.Words> sum() throws Model.Fault {
        ToLongFunction<Model.Words> left = term();
        while (List.of("+", "-").contains(token())) {
            String sign = tokens.get(at++);
            ToLongFunction<Model.Words> l = left;
            ToLongFunction<Model.Words> r = term();
            left = w -> reckon(sign, l.applyAsLong(w), r.applyAsLong(w));
        }
        return left;
    }

    private ToLongFunction<Model.Words> term() throws Model.Fault {
        ToLongFunction<Model.Words> left = part();
        while (List.of("*", "/", "%").contains(token())) {
            String sign = tokens.get(at++);
            ToLongFunction<Model.Words> l = left;
            ToLongFunction<Model.Words> r = part();
            left = w -> reckon(sign, l.applyAsLong(w), r.applyAsLong(w));
        }
        return left;
    }

    private ToLongFunction<Model.Words> part() throws Model.Fault {
        if (token().equals("[")) {
            bracket();
            ToLongFunction<Model.Words> of = sum();
            must("]");
            open--;
            return of;
        }
        if (parts == 50) {
            throw fault();
        }
        parts++;
        if (token().matches("[0-9]+")) {
            int value = number(0, 1000);
            return w -> value;
        }
        String word = token();
        List<String> known = laws ? List.of("claim", "heavy", "kind", "place", "arm", "day", "mood", "slack")
                : List.of("day", "done", "latest", "tilt", "on", "heavy", "at");
        if (!known.contains(word)) {
            throw fault();
        }
        at++;
        int c = !laws && List.of("heavy", "at").contains(word) ? number(0, 6) : 0;
        return w -> w.tell(word, c);
    }
}
