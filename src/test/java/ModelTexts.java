import java.util.Random;

/** TEXTS by chance: most can be read, some have a TOKEN too many, too few or a wrong one. */
final class ModelTexts {
    private static final String[] LAW_WORDS = {"sort", "thing", "place", "long", "has", "sweet", "year", "mood"};
    private static final String[] ORDER_WORDS = {"years", "houses", "done", "last", "long", "has"};
    private static final String[] ANY = {"if", "and", "or", "not", "(", ")", "[", "]", "+", "-", "*", "/", "%", "<", ">", "=",
        ";", "bars", "weighs", "born", "year", "times", "at", "in", "out", "1001", "0", "7", "12", "sort", "long", "has",
        "last", "!", "A", "nots", "" + (char) 0, "" + (char) 200};

    private final Random random;
    private final boolean orders;
    private final StringBuilder text = new StringBuilder();

    ModelTexts(Random random, boolean orders) {
        this.random = random;
        this.orders = orders;
    }

    private boolean seldom(int of) {
        return random.nextInt(of) == 0;
    }

    private void add(String token) {
        if (seldom(300)) {
            return;
        }
        String told = seldom(300) ? ANY[random.nextInt(ANY.length)] : token;
        if (text.length() > 0) {
            char last = text.charAt(text.length() - 1);
            char next = told.charAt(0);
            boolean needed = isLetter(last) && isLetter(next) || isDigit(last) && isDigit(next);
            if (needed && !seldom(60) || seldom(3)) {
                text.append(seldom(8) ? "  " : " ");
            }
        }
        text.append(told);
        if (seldom(400)) {
            add(ANY[random.nextInt(ANY.length)]);
        }
    }

    private static boolean isLetter(char c) {
        return c >= 'a' && c <= 'z';
    }

    private static boolean isDigit(char c) {
        return c >= '0' && c <= '9';
    }

    String text() {
        if (seldom(12)) {
            add(" ");
        }
        int clauses = 1 + random.nextInt(seldom(6) ? 14 : 3);
        for (int i = 0; i < clauses; i++) {
            if (i > 0) {
                add(";");
            }
            if (orders) {
                order();
            } else {
                law();
            }
        }
        if (seldom(30)) {
            text.append("  ");
        }
        if (text.length() > 380) {
            text.setLength(380);
        }
        return text.toString();
    }

    private void law() {
        if (seldom(2)) {
            add("weighs");
            sum(0);
            if (seldom(3)) {
                return;
            }
        } else {
            add("bars");
        }
        add("if");
        if (!seldom(4)) {
            plain(1);
            add("and");
        }
        test(0);
    }

    private void order() {
        if (seldom(4)) {
            add("year");
            smallSum("years", 5);
        } else {
            add("born");
            smallSum("houses", 3);
            String how = new String[] {"out", "in", "swap", "double", "stand", "in", "in"}[random.nextInt(7)];
            add(how);
            if (how.equals("in")) {
                smallSum("", 6);
            }
            add("at");
            smallSum("", 3);
        }
        if (seldom(3)) {
            add("times");
            add(Integer.toString(1 + random.nextInt(seldom(10) ? 22 : 4)));
        }
        if (seldom(2)) {
            add("if");
            test(0);
        }
    }

    /** One that can mostly be. */
    private void smallSum(String word, int below) {
        if (seldom(10)) {
            sum(0);
            return;
        }
        if (!word.isEmpty() && seldom(2)) {
            add(word);
            add(word.equals("houses") ? "-" : "+");
            add(Integer.toString(1 + random.nextInt(2)));
            return;
        }
        add(Integer.toString(random.nextInt(below)));
    }

    private void test(int depth) {
        both(depth);
        while (seldom(5)) {
            add("or");
            both(depth);
        }
    }

    private void both(int depth) {
        plain(depth);
        while (seldom(5)) {
            add("and");
            plain(depth);
        }
    }

    private void plain(int depth) {
        while (seldom(6)) {
            add("not");
        }
        if (seldom(6) && depth < 10) {
            add("(");
            test(depth + 1);
            add(")");
            return;
        }
        sum(depth);
        add(new String[] {"<", ">", "="}[random.nextInt(3)]);
        sum(depth);
    }

    private void sum(int depth) {
        term(depth);
        while (seldom(5)) {
            add(seldom(2) ? "+" : "-");
            term(depth);
        }
    }

    private void term(int depth) {
        part(depth);
        while (seldom(6)) {
            add(new String[] {"*", "/", "%"}[random.nextInt(3)]);
            part(depth);
        }
    }

    private void part(int depth) {
        if (seldom(8) && depth < 10) {
            add("[");
            sum(depth + 1);
            add("]");
            return;
        }
        if (seldom(2)) {
            add(Integer.toString(seldom(20) ? 900 + random.nextInt(103) : random.nextInt(8)));
            return;
        }
        String[] words = orders ? ORDER_WORDS : LAW_WORDS;
        String word = words[random.nextInt(words.length)];
        add(word);
        if (orders && (word.equals("long") || word.equals("has"))) {
            add(Integer.toString(random.nextInt(seldom(20) ? 14 : 4)));
            if (word.equals("has")) {
                add(Integer.toString(random.nextInt(seldom(20) ? 8 : 6)));
            }
        }
    }
}
