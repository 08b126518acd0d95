import java.util.ArrayList;
import java.util.HashSet;
import java.util.List;
import java.util.Set;
import java.util.function.ToIntFunction;

/** A TEXT of the model, read by the grammar's own words; a FAULT ends the reading. */
final class ModelText {
    record Clause(String head, int first, int second) {
    }

    interface Sum {
        int of(ToIntFunction<String> names);
    }

    private static final class Fault extends Exception {
        private static final long serialVersionUID = 1L;
        final transient int what;

        Fault(int what) {
            this.what = what;
        }
    }

    private static final Set<String> HEADS = Set.of("counts", "lag", "dies", "guest", "say", "oh", "toast", "bye", "ask",
            "pass", "send", "dinner");
    private static final Set<String> ALWAYS = Set.of("night", "moment", "wine");
    private static final Set<String> SPEAKER = Set.of("rank", "hears", "kind", "words", "since", "guests", "has");
    private static final Set<String> DINNER = Set.of("said", "heirs");
    private static final Set<String> SIGNS = Set.of("<=", ">=", "<", ">", "=", "#", "+", "-", "*", "/", "(", ")", ":", ";");

    final List<Clause> clauses = new ArrayList<>();
    Sum counts = null;
    Sum lag = null;
    Sum dies = null;
    int fault = 0;
    int place = -1;

    private final String bytes;
    private int at = 0;
    private String token = "";
    private String law = "";
    private int open = 0;

    ModelText(List<Integer> tape) {
        StringBuilder b = new StringBuilder();
        for (int one : tape) {
            b.append((char) one);
        }
        bytes = b.toString();
        try {
            look();
            Set<String> laws = new HashSet<>();
            while (!token.isEmpty()) {
                clause(laws);
            }
        } catch (Fault f) {
            fault = f.what;
            place = at;
        }
    }

    /** The TOKEN at the next byte that is no blank; empty: the end; of a strange byte just this. */
    private void look() {
        while (at < bytes.length() && (bytes.charAt(at) == ' ' || bytes.charAt(at) == '\n')) {
            at++;
        }
        String rest = bytes.substring(at);
        token = rest.isEmpty() ? "" : rest.substring(0, 1);
        for (String pattern : new String[] {"[a-zA-Z]+", "[0-9]+"}) {
            java.util.regex.Matcher m = java.util.regex.Pattern.compile(pattern).matcher(rest);
            if (m.lookingAt()) {
                token = m.group();
                return;
            }
        }
        if (rest.length() > 1 && SIGNS.contains(rest.substring(0, 2))) {
            token = rest.substring(0, 2);
        }
    }

    private void go() {
        at += token.length();
        look();
    }

    private boolean is(String wanted) {
        return token.equals(wanted);
    }

    private void must(String wanted) throws Fault {
        if (!is(wanted)) {
            throw new Fault(1);
        }
        go();
    }

    private int number(int from, int to) throws Fault {
        if (token.isEmpty() || !Character.isDigit(token.charAt(0))) {
            throw new Fault(1);
        }
        java.math.BigInteger n = new java.math.BigInteger(token);
        if (n.compareTo(java.math.BigInteger.valueOf(from)) < 0 || n.compareTo(java.math.BigInteger.valueOf(to)) > 0) {
            throw new Fault(2);
        }
        go();
        return n.intValueExact();
    }

    private void clause(Set<String> laws) throws Fault {
        String head = token;
        if (!HEADS.contains(head)) {
            throw new Fault(1);
        }
        boolean isLaw = is("counts") || is("lag") || is("dies");
        if (isLaw && !laws.add(head)) {
            throw new Fault(4);
        }
        if (clauses.size() == 24) {
            throw new Fault(6);
        }
        go();
        law = head;
        int first = 0;
        int second = 0;
        switch (head) {
            case "counts" -> counts = either();
            case "lag" -> lag = sum();
            case "dies" -> dies = sum();
            case "guest" -> {
                first = number(0, 9);
                must("hears");
                second = number(0, 9);
            }
            case "pass" -> first = number(1, 60);
            case "ask", "dinner" -> first = 0;
            default -> first = number(0, 7);
        }
        must(";");
        clauses.add(new Clause(head, first, second));
    }

    private Sum either() throws Fault {
        Sum left = both();
        while (is("or")) {
            go();
            Sum one = left;
            Sum other = both();
            left = n -> one.of(n) + other.of(n) > 0 ? 1 : 0;
        }
        return left;
    }

    private Sum both() throws Fault {
        Sum left = ask();
        while (is("and")) {
            go();
            Sum one = left;
            Sum other = ask();
            left = n -> one.of(n) * other.of(n);
        }
        return left;
    }

    private void opened() throws Fault {
        if (open == 8) {
            throw new Fault(3);
        }
        open++;
        go();
    }

    private Sum ask() throws Fault {
        if (is("not")) {
            opened();
            Sum it = ask();
            open--;
            return n -> it.of(n) == 0 ? 1 : 0;
        }
        Sum left = sum();
        String op = token;
        if (!Set.of("<", "<=", ">", ">=", "=", "#").contains(op)) {
            throw new Fault(1);
        }
        go();
        Sum right = sum();
        return n -> {
            int c = Integer.compare(left.of(n), right.of(n));
            boolean so = switch (op) {
                case "<" -> c < 0;
                case "<=" -> c <= 0;
                case ">" -> c > 0;
                case ">=" -> c >= 0;
                case "=" -> c == 0;
                default -> c != 0;
            };
            return so ? 1 : 0;
        };
    }

    private static int cut(long value) {
        return (int) (value > 1000000 ? 1000000 : value < -1000000 ? -1000000 : value);
    }

    private Sum sum() throws Fault {
        Sum left = product();
        while (is("+") || is("-")) {
            int sign = is("+") ? 1 : -1;
            go();
            Sum one = left;
            Sum other = product();
            left = n -> cut(one.of(n) + (long) sign * other.of(n));
        }
        return left;
    }

    private Sum product() throws Fault {
        Sum left = one();
        while (is("*") || is("/")) {
            boolean times = is("*");
            go();
            Sum one = left;
            Sum other = one();
            left = n -> {
                long b = other.of(n);
                return cut(times ? one.of(n) * b : b == 0 ? 0 : one.of(n) / b);
            };
        }
        return left;
    }

    private Sum one() throws Fault {
        String name = token;
        if (!name.isEmpty() && Character.isDigit(name.charAt(0))) {
            int value = number(0, 9999);
            return n -> value;
        }
        boolean known = ALWAYS.contains(name) || SPEAKER.contains(name) || DINNER.contains(name);
        if (known) {
            if (law.equals("dies") ? SPEAKER.contains(name) : DINNER.contains(name)) {
                throw new Fault(5);
            }
            go();
            return n -> n.applyAsInt(name);
        }
        if (!is("(") && !is("-") && !is("choose")) {
            throw new Fault(1);
        }
        opened();
        Sum it;
        if (name.equals("(")) {
            it = sum();
            must(")");
        } else if (name.equals("-")) {
            Sum inner = one();
            it = n -> -inner.of(n);
        } else {
            it = choose();
        }
        open--;
        return it;
    }

    private Sum choose() throws Fault {
        Sum by = sum();
        List<int[]> ranges = new ArrayList<>();
        List<Sum> sums = new ArrayList<>();
        if (!is("case")) {
            throw new Fault(1);
        }
        while (is("case")) {
            if (ranges.size() == 6) {
                throw new Fault(7);
            }
            go();
            int from = number(0, 9999);
            int to = from;
            if (is("to")) {
                go();
                int start = at;
                String before = token;
                to = number(0, 9999);
                if (to < from) {
                    at = start;
                    token = before;
                    throw new Fault(7);
                }
            }
            must(":");
            ranges.add(new int[] {from, to});
            sums.add(sum());
        }
        must("else");
        Sum other = sum();
        must("end");
        return n -> {
            int value = by.of(n);
            for (int i = 0; i < ranges.size(); i++) {
                if (value >= ranges.get(i)[0] && value <= ranges.get(i)[1]) {
                    return sums.get(i).of(n);
                }
            }
            return other.of(n);
        };
    }
}
