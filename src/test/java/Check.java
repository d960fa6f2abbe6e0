/** What the project's tests share: answers that are due, and TEXTS brought onto the TAPE. */
final class Check {
    private static int wrong = 0;
    private static int asked = 0;

    private Check() {
    }

    static void due(String what, long got, long want) {
        asked++;
        if (got != want) {
            wrong++;
            if (wrong <= 40) {
                System.out.println(what + " answered " + got + ", due is " + want);
            }
        }
    }

    static void holds(String what, boolean so) {
        due(what, so ? 1 : 0, 1);
    }

    /** Puts bytes behind what the TAPE has; there must be room for them, filled up to twenties. */
    static void bytes(DishLines x, int... some) {
        int before = x.count(2);
        for (int i = 0; i < some.length; i += 20) {
            int[] five = new int[5];
            for (int j = 0; j < 20; j++) {
                int value = i + j < some.length ? some[i + j] : 0;
                five[j / 4] |= (value & 255) << 24 - 8 * (j % 4);
            }
            x.feed(five[0], five[1], five[2], five[3], five[4]);
        }
        x.end(before + some.length);
    }

    static void text(DishLines x, String text) {
        int[] some = new int[text.length()];
        for (int i = 0; i < some.length; i++) {
            some[i] = text.charAt(i);
        }
        bytes(x, some);
    }

    static int law(DishLines x, String text) {
        text(x, text);
        return x.law();
    }

    /** A LAW that is in FORCE from now on. */
    static void rule(DishLines x, String text) {
        x.force(law(x, text));
    }

    static int orders(DishLines x, String text) {
        text(x, text);
        return x.orders();
    }

    static void end() {
        System.out.println(wrong == 0 ? asked + " answers are as due" : wrong + " of " + asked + " answers are not as due");
        if (wrong != 0) {
            System.exit(1);
        }
    }
}
