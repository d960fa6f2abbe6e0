/** What the project's tests share: answers that are due, and TEXTS brought onto the TAPE. */
final class Check {
    /** Numbers far beside all limits, those among them at which an int begins anew. */
    static final int[] FAR = {Integer.MIN_VALUE, Integer.MIN_VALUE + 1, -1000000007, -65536, 65536 * 17 + 1, 1000000007,
        Integer.MAX_VALUE - 1, Integer.MAX_VALUE};
    private static final int[] CODES = {-1, -2, -3, -5, -6};
    private static int wrong = 0;
    private static int asked = 0;

    interface Call {
        long on(DishLines x);
    }

    private Check() {
    }

    static void due(String what, long got, long want) {
        asked++;
        if (got != want) {
            wrong++;
            if (wrong <= 40) {
                System.out.println(what + " answered " + got + ", due is " + want);
            }
        }
    }

    static void holds(String what, boolean so) {
        due(what, so ? 1 : 0, 1);
    }

    /** What IMAGES keep, as far as it can be seen without asking for ways. */
    static String kept(DishLines x) {
        StringBuilder seen = new StringBuilder();
        for (int thing = 0; thing < 6; thing++) {
            seen.append(x.of(thing, 0)).append(x.of(thing, 1)).append(x.of(thing, 2)).append(' ');
            seen.append(x.change(123, 1, 1, thing, 1)).append(' ');
        }
        for (int what : new int[] {0, 1, 8, 9, 10}) {
            seen.append("; ").append(x.count(what));
        }
        for (int house = 0; house < 12; house++) {
            for (int what : new int[] {0, 1, 2, 3, 5}) {
                seen.append(' ').append(x.at(house, what));
            }
        }
        return seen.toString();
    }

    /** What IMAGES do not keep, the TEXTS' part aside. */
    static String aside(DishLines x) {
        StringBuilder seen = new StringBuilder().append(x.burnt());
        for (int i = 0; i <= 60; i++) {
            seen.append(' ').append(x.drawn(i));
        }
        return seen.toString();
    }

    static String texts(DishLines x) {
        return x.count(2) + " " + x.fault() + " " + x.stopped();
    }

    private static String counted(DishLines x) {
        return x.count(3) + " " + x.count(4) + " " + x.count(5) + " " + x.count(6) + " " + x.count(7);
    }

    /** A call that is REFUSED: it is told and counted so, and all else is as it was. */
    static void refused(String what, DishLines x, int by, Call call) {
        String before = texts(x);
        refusedText(what, x, by, call);
        holds(what + ": texts", texts(x).equals(before));
    }

    /** The same for law() and orders(): what they do to the TAPE, FAULT and where they stopped is for others to see. */
    static void refusedText(String what, DishLines x, int by, Call call) {
        String keptBefore = kept(x);
        String asideBefore = aside(x);
        StringBuilder due = new StringBuilder();
        for (int i = 0; i < CODES.length; i++) {
            due.append(i == 0 ? "" : " ").append(x.count(3 + i) + (CODES[i] == by ? 1 : 0));
        }
        due(what, call.on(x), by);
        due(what + ": status", x.status(), by);
        holds(what + ": counted", counted(x).equals(due.toString()));
        holds(what + ": kept", kept(x).equals(keptBefore));
        holds(what + ": aside", aside(x).equals(asideBefore));
    }

    /** A question that has no answer: it is not REFUSED, and all is as it was. */
    static void none(String what, DishLines x, Call call) {
        String before = x.status() + counted(x) + texts(x) + kept(x) + aside(x);
        due(what, call.on(x), -1);
        holds(what + ": all as it was", before.equals(x.status() + counted(x) + texts(x) + kept(x) + aside(x)));
    }

    /** A valley with twelve HOUSES of one DISH, all of no MOTHER. */
    static DishLines full(int dish) {
        DishLines x = new DishLines();
        for (int i = 0; i < 12; i++) {
            x.house(-1, 0, dish);
        }
        return x;
    }

    static String repeated(String first, String more, int times) {
        StringBuilder text = new StringBuilder(first);
        for (int i = 0; i < times; i++) {
            text.append(more);
        }
        return text.toString();
    }

    /** Puts bytes behind what the TAPE has; there must be room for them, filled up to twenties. */
    static void bytes(DishLines x, int... some) {
        int before = x.count(2);
        for (int i = 0; i < some.length; i += 20) {
            int[] five = new int[5];
            for (int j = 0; j < 20; j++) {
                int value = i + j < some.length ? some[i + j] : 0;
                five[j / 4] |= (value & 255) << 24 - 8 * (j % 4);
            }
            x.feed(five[0], five[1], five[2], five[3], five[4]);
        }
        x.end(before + some.length);
    }

    static void text(DishLines x, String text) {
        int[] some = new int[text.length()];
        for (int i = 0; i < some.length; i++) {
            some[i] = text.charAt(i);
        }
        bytes(x, some);
    }

    static int law(DishLines x, String text) {
        text(x, text);
        return x.law();
    }

    /** A LAW that is in FORCE from now on. */
    static void rule(DishLines x, String text) {
        x.force(law(x, text));
    }

    static int orders(DishLines x, String text) {
        text(x, text);
        return x.orders();
    }

    static void end() {
        System.out.println(wrong == 0 ? asked + " answers are as due" : wrong + " of " + asked + " answers are not as due");
        if (wrong != 0) {
            System.exit(1);
        }
    }
}
