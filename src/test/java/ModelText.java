import java.math.BigInteger;
import java.util.ArrayList;
import java.util.List;
import java.util.regex.Matcher;
import java.util.regex.Pattern;

/** The Model's reading of a TEXT of either language, as a tree. */
final class ModelText {
    interface Words {
        long of(String name);
    }

    interface Sum {
        long value(Words words) throws Broken;
    }

    interface Test {
        boolean isSo(Words words) throws Broken;
    }

    static final class Broken extends Exception {
        private static final long serialVersionUID = 1;
    }

    private static final class Fault extends Exception {
        private static final long serialVersionUID = 1;
    }

    static final class Clause {
        String head;
        String how;
        int times = 1;
        Sum sum;
        Sum thing;
        Sum place;
        Test test;

        boolean isSo(Words words) {
            try {
                return test == null || test.isSo(words);
            } catch (Broken broken) {
                return false;
            }
        }
    }

    final List<Clause> clauses = new ArrayList<>();
    final int fault;
    private final boolean asOrders;
    private final List<String> tokens = new ArrayList<>();
    private final List<Integer> places = new ArrayList<>();
    private int now = 0;
    private int parts = 0;
    private int open = 0;

    ModelText(String text, boolean asOrders) {
        this.asOrders = asOrders;
        Matcher matcher = Pattern.compile("[a-z]+|[0-9]+|[^ ]", Pattern.DOTALL).matcher(text);
        while (matcher.find()) {
            tokens.add(matcher.group());
            places.add(matcher.start());
        }
        tokens.add("");
        places.add(text.length());
        int found = -1;
        try {
            whole();
        } catch (Fault f) {
            found = places.get(now);
        }
        fault = found;
    }

    private boolean sees(String token) {
        return tokens.get(now).equals(token);
    }

    private boolean takes(String token) {
        if (sees(token)) {
            now++;
            return true;
        }
        return false;
    }

    private void must(boolean so) throws Fault {
        if (!so) {
            throw new Fault();
        }
    }

    private int number(int low, int high) throws Fault {
        must(tokens.get(now).matches("[0-9]+"));
        BigInteger value = new BigInteger(tokens.get(now));
        must(value.compareTo(BigInteger.valueOf(low)) >= 0 && value.compareTo(BigInteger.valueOf(high)) <= 0);
        now++;
        return value.intValue();
    }

    private void whole() throws Fault {
        do {
            must(clauses.size() < 12);
            clauses.add(asOrders ? orderClause() : lawClause());
        } while (takes(";"));
        must(sees(""));
    }

    private Clause lawClause() throws Fault {
        Clause clause = new Clause();
        if (takes("weighs")) {
            clause.head = "weighs";
            clause.sum = sum();
        } else {
            must(takes("bars"));
            clause.head = "bars";
        }
        clause.test = takes("if") ? test() : null;
        return clause;
    }

    private Clause orderClause() throws Fault {
        Clause clause = new Clause();
        if (takes("year")) {
            clause.head = "year";
            clause.sum = sum();
        } else {
            must(takes("born"));
            clause.head = "born";
            clause.sum = sum();
            must(List.of("out", "in", "swap", "double", "stand").contains(tokens.get(now)));
            clause.how = tokens.get(now++);
            clause.thing = clause.how.equals("in") ? sum() : null;
            must(takes("at"));
            clause.place = sum();
        }
        clause.times = takes("times") ? number(1, 20) : 1;
        clause.test = takes("if") ? test() : null;
        return clause;
    }

    private Test test() throws Fault {
        Test left = both();
        if (!takes("or")) {
            return left;
        }
        Test right = test();
        return words -> left.isSo(words) || right.isSo(words);
    }

    private Test both() throws Fault {
        Test left = plain();
        if (!takes("and")) {
            return left;
        }
        Test right = both();
        return words -> left.isSo(words) && right.isSo(words);
    }

    private Test plain() throws Fault {
        if (takes("not")) {
            Test of = plain();
            return words -> !of.isSo(words);
        }
        if (sees("(")) {
            must(open < 8);
            now++;
            open++;
            Test within = test();
            must(takes(")"));
            open--;
            return within;
        }
        Sum left = sum();
        must(sees("<") || sees(">") || sees("="));
        String sign = tokens.get(now++);
        Sum right = sum();
        return words -> {
            int order = Long.compare(left.value(words), right.value(words));
            return sign.equals("<") ? order < 0 : sign.equals(">") ? order > 0 : order == 0;
        };
    }

    private Sum sum() throws Fault {
        Sum all = term();
        while (sees("+") || sees("-")) {
            all = joined(all, tokens.get(now++), term());
        }
        return all;
    }

    private Sum term() throws Fault {
        Sum all = part();
        while (sees("*") || sees("/") || sees("%")) {
            all = joined(all, tokens.get(now++), part());
        }
        return all;
    }

    private static Sum joined(Sum left, String sign, Sum right) {
        return words -> {
            BigInteger a = BigInteger.valueOf(left.value(words));
            BigInteger b = BigInteger.valueOf(right.value(words));
            BigInteger answer;
            switch (sign) {
                case "+": answer = a.add(b); break;
                case "-": answer = a.subtract(b); break;
                case "*": answer = a.multiply(b); break;
                default:
                    if (b.signum() == 0) {
                        throw new Broken();
                    }
                    answer = sign.equals("/") ? a.divide(b) : a.remainder(b);
                    break;
            }
            if (answer.abs().compareTo(BigInteger.valueOf(1000000000)) > 0) {
                throw new Broken();
            }
            return answer.longValue();
        };
    }

    private Sum part() throws Fault {
        if (sees("[")) {
            must(open < 8);
            now++;
            open++;
            Sum within = sum();
            must(takes("]"));
            open--;
            return within;
        }
        must(parts < 50);
        parts++;
        if (tokens.get(now).matches("[0-9]+")) {
            long value = number(0, 1000);
            return words -> value;
        }
        List<String> known = asOrders ? List.of("years", "houses", "done", "last", "long", "has")
            : List.of("sort", "thing", "place", "long", "has", "sweet", "year", "mood");
        must(known.contains(tokens.get(now)));
        String name = tokens.get(now++);
        if (asOrders && (name.equals("long") || name.equals("has"))) {
            String full = name + " " + number(0, 11);
            String whole = name.equals("has") ? full + " " + number(0, 5) : full;
            return words -> words.of(whole);
        }
        return words -> words.of(name);
    }
}
