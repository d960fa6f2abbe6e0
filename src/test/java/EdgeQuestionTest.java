/**
 * The document's sentences that name a limit, each with what lies just within, just beyond and far beyond it:
 * Terms III, promises 18 to 31.
 */
public final class EdgeQuestionTest {
    private static final long ALL = 1000000000000L;
    /** One DISH of each LONG, without a THING twice. */
    private static final int[] BY_LONG = {0, 6, 52, 413, 2564, 35126};

    public static void main(String[] args) {
        outs();
        ins();
        swaps();
        doubles();
        stands();
        wrongChanges();
        gotForInAndDoubleAlone();
        howManyChanges();
        orderOfChanges();
        steps();
        stepsThatCannotBe();
        ways();
        betweenExtremes();
        betweenBounds();
        custom();
        poorBounds();
        poorMost();
        firstBits();
        firstTwelve();
        firstNone();
        linesBits();
        linesOfLikeOnes();
        linesOneWay();
        chancesN();
        chancesCut();
        chancesThatStay();
        likeliest();
        tastingsBits();
        tastingsOfAll();
        copies();
        stood();
        rulesOfNow();
        yearsBackAndForth();
        Check.end();
    }

    private static void due(String what, long got, long want) {
        Check.due(what, got, want);
    }

    private static String digits(int dish) {
        return dish == 0 ? "" : Integer.toString(dish);
    }

    private static int number(String digits) {
        return digits.isEmpty() ? 0 : Integer.parseInt(digits);
    }

    private static void made(int dish, int sort, int place, int thing, int want) {
        DishLines x = new DishLines();
        for (int i = 0; i < 6; i++) {
            x.put(i, 2, (i + 1) % 6);
        }
        String call = "18 change(" + dish + ", " + sort + ", " + place + ", " + thing + ")";
        due(call, x.change(dish, sort, place, thing, 0), want);
        due(call + " weighs", x.change(dish, sort, place, thing, 1), want == -1 ? -1 : 1);
        x.house(-1, 0, dish);
        due("5 " + call, x.born(0, sort, place, thing), want == -1 ? -3 : 1);
        due("5 " + call + " makes", x.at(1, 2), want);
    }

    /** OUT: the PINCH at a place 0 .. goes. */
    private static void outs() {
        for (int dish : BY_LONG) {
            String of = digits(dish);
            for (int place = 0; place <= 5; place++) {
                boolean can = place < of.length();
                made(dish, 0, place, 0, can ? number(of.substring(0, place) + of.substring(place + 1)) : -1);
            }
        }
    }

    /** IN: ahead of that place (LONG: at the end; LONG 4 at most). */
    private static void ins() {
        for (int dish : BY_LONG) {
            String of = digits(dish);
            for (int place = 0; place <= 5; place++) {
                boolean can = place <= of.length() && of.length() <= 4;
                for (int thing = 0; thing < 6; thing++) {
                    made(dish, 1, place, thing,
                        can ? number(of.substring(0, place) + (thing + 1) + of.substring(place)) : -1);
                }
            }
        }
    }

    /** SWAP: the PINCHES at a place and behind it, unlike ones. */
    private static void swaps() {
        for (int dish : BY_LONG) {
            String of = digits(dish);
            for (int place = 0; place <= 5; place++) {
                boolean can = place + 1 < of.length();
                made(dish, 2, place, 0, can ? number(of.substring(0, place) + of.charAt(place + 1) + of.charAt(place)
                    + of.substring(place + 2)) : -1);
            }
        }
        for (int place = 0; place <= 5; place++) {
            made(66666, 2, place, 0, -1);
        }
        made(11211, 2, 0, 0, -1);
        made(11211, 2, 1, 0, 12111);
        made(11211, 2, 2, 0, 11121);
        made(11211, 2, 3, 0, -1);
        made(33, 2, 0, 0, -1);
    }

    /** DOUBLE: the PINCH at a place is there twice (LONG 4 at most). */
    private static void doubles() {
        for (int dish : BY_LONG) {
            String of = digits(dish);
            for (int place = 0; place <= 5; place++) {
                boolean can = place < of.length() && of.length() <= 4;
                made(dish, 3, place, 0, can ? number(of.substring(0, place) + of.charAt(place) + of.substring(place)) : -1);
            }
        }
    }

    /** STAND: its STAND-IN is there for it (if it has one). */
    private static void stands() {
        for (int dish : BY_LONG) {
            String of = digits(dish);
            for (int place = 0; place <= 5; place++) {
                boolean can = place < of.length();
                made(dish, 4, place, 0, can ? number(of.substring(0, place) + ((of.charAt(place) - '0') % 6 + 1)
                    + of.substring(place + 1)) : -1);
            }
        }
        DishLines x = new DishLines();
        x.put(1, 2, 0);
        due("18 stand: has one", x.change(123, 4, 1, 0, 0), 113);
        Check.none("18 stand: has none, the first", x, y -> y.change(123, 4, 0, 0, 0));
        Check.none("18 stand: has none, the last", x, y -> y.change(123, 4, 2, 0, 0));
        x.put(1, 2, -1);
        Check.none("18 stand: none any more", x, y -> y.change(123, 4, 1, 0, 0));
    }

    private static void wrongChanges() {
        DishLines x = new DishLines();
        x.put(0, 2, 1);
        for (int sort = 0; sort < 5; sort++) {
            int its = sort;
            Check.none("18 place -1", x, y -> y.change(1234, its, -1, 0, 0));
            Check.none("18 place 6", x, y -> y.change(1234, its, 6, 0, 0));
            Check.none("18 what -1", x, y -> y.change(1234, its, 0, 0, -1));
            Check.none("18 what 2", x, y -> y.change(1234, its, 0, 0, 2));
            for (int far : Check.FAR) {
                Check.none("18 place " + far, x, y -> y.change(1234, its, far, 0, 0));
                Check.none("18 what " + far, x, y -> y.change(1234, its, 0, 0, far));
            }
        }
        Check.none("18 sort -1", x, y -> y.change(1234, -1, 0, 0, 0));
        Check.none("18 sort 5", x, y -> y.change(1234, 5, 0, 0, 0));
        Check.none("18 thing -1", x, y -> y.change(1234, 1, 0, -1, 0));
        Check.none("18 thing 6", x, y -> y.change(1234, 1, 0, 6, 0));
        for (int far : Check.FAR) {
            Check.none("18 sort " + far, x, y -> y.change(1234, far, 0, 0, 0));
            Check.none("18 thing " + far, x, y -> y.change(1234, 1, 0, far, 0));
            due("18 thing of out " + far, x.change(1234, 0, 0, far, 0), 234);
            due("18 thing of swap " + far, x.change(1234, 2, 0, far, 0), 2134);
            due("18 thing of double " + far, x.change(1234, 3, 0, far, 0), 11234);
            due("18 thing of stand " + far, x.change(1234, 4, 0, far, 0), 2234);
        }
        due("37 questions are not refused", x.status() + x.count(3), 0);
    }

    /** For IN and DOUBLE the THING is GOT: for the others it need not be, nor need a STAND-IN. */
    private static void gotForInAndDoubleAlone() {
        DishLines x = new DishLines();
        for (int i = 0; i < 6; i++) {
            x.put(i, 1, 0);
            x.put(i, 2, (i + 1) % 6);
        }
        for (int place = 0; place <= 4; place++) {
            due("18 in", x.change(1234, 1, place, place, 0), -1);
            due("18 double", x.change(1234, 3, place, 0, 0), -1);
        }
        due("18 out", x.change(1234, 0, 3, 0, 0), 123);
        due("18 swap", x.change(1234, 2, 2, 0, 0), 1243);
        due("18 stand", x.change(1234, 4, 3, 0, 0), 1235);
        due("19 of four", x.changes(1234, -1), 4 + 3 + 4);
        due("19 of none", x.changes(0, -1), 0);
        due("20 down", x.steps(66666, 0), 5);
        due("20 not up", x.steps(0, 6), -1);
        x.put(5, 1, 1);
        due("20 up by what is got", x.steps(0, 66666), 5);
        due("19 of none, by what is got", x.changes(0, -1), 1);
        due("18 in of it", x.change(1234, 1, 0, 5, 0), 61234);
    }

    private static void howManyChanges() {
        int[] want = {6, 14, 23, 32, 41, 9};
        DishLines x = new DishLines();
        for (int i = 0; i < 6; i++) {
            int dish = BY_LONG[i];
            int some = want[i];
            due("19 of LONG " + i, x.changes(dish, -1), some);
            Check.holds("19 the last of LONG " + i, x.changes(dish, some - 1) >= 0);
            Check.none("19 behind the last of LONG " + i, x, y -> y.changes(dish, some));
            Check.none("19 i -2", x, y -> y.changes(dish, -2));
            for (int far : Check.FAR) {
                Check.none("19 i " + far, x, y -> y.changes(dish, far));
            }
        }
        due("19 of five like ones", x.changes(11111, -1), 5);
        due("19 of four like ones", x.changes(1111, -1), 4 + 30 + 4);
        for (int i = 0; i < 6; i++) {
            x.put(i, 2, (i + 3) % 6);
        }
        due("19 the most", x.changes(2564, -1), 45);
        due("19 the last of the most", x.changes(2564, 44), 2561);
        due("19 behind the last of the most", x.changes(2564, 45), -1);
    }

    /** CHANGES are in order by sort, place, THING. */
    private static void orderOfChanges() {
        DishLines x = new DishLines();
        x.put(5, 2, 0);
        int[] of6 = {0, 16, 26, 36, 46, 56, 66, 61, 62, 63, 64, 65, 66, 66, 1};
        for (int i = 0; i < of6.length; i++) {
            due("19 of 6: " + i, x.changes(6, i), of6[i]);
        }
        int[] of35126 = {5126, 3126, 3526, 3516, 3512, 53126, 31526, 35216, 35162, 35121};
        for (int i = 0; i < of35126.length; i++) {
            due("19 of 35126: " + i, x.changes(35126, i), of35126[i]);
        }
        due("19 of 35126: how many", x.changes(35126, -1), of35126.length);
        for (int thing = 0; thing < 6; thing++) {
            due("19 of the empty one: " + thing, x.changes(0, thing), thing + 1);
        }
        x.put(0, 1, 0);
        due("19 of the empty one, THING 0 is not got", x.changes(0, 0), 2);
        due("19 of 6: the first of another sort", x.changes(6, 1), 26);
    }

    /** STEPS: the fewest CHANGES, one behind the other. */
    private static void steps() {
        DishLines x = new DishLines();
        for (int dish : EdgeStateTest.GOOD_DISHES) {
            due("20 to itself", x.steps(dish, dish), 0);
            due("20 to the empty one", x.steps(dish, 0), digits(dish).length());
            due("20 from the empty one", x.steps(0, dish), digits(dish).length());
        }
        due("20 the most", x.steps(11111, 66666), 10);
        due("20 the most, back", x.steps(66666, 11111), 10);
        due("20 by one swap of five", x.steps(12345, 12354), 1);
        due("20 out and in, full", x.steps(12345, 12344), 2);
        due("20 turned round", x.steps(12, 21), 1);
        due("20 on and on round", x.steps(1234, 2341), 2);
        Check.none("20 no dish", x, y -> y.steps(0, 7));
        for (int i = 0; i < 5; i++) {
            x.put(i, 2, i + 1);
        }
        due("20 by stand-ins, five each", x.steps(11111, 66666), 10);
        due("20 by stand-ins, four each", x.steps(11111, 55555), 10);
        due("20 by stand-ins, one each", x.steps(11111, 22222), 5);
        due("20 by stand-ins, one of them", x.steps(1, 2), 1);
        due("20 by stand-ins, two behind each other", x.steps(1, 3), 2);
        due("20 not back", x.steps(2, 1), 2);
    }

    private static void stepsThatCannotBe() {
        DishLines x = new DishLines();
        Check.rule(x, "bars if sort = 1 and long = 4;bars if sort = 3 and long = 4");
        due("20 none of five", x.steps(0, 12345), -1);
        due("20 but to itself", x.steps(12345, 12345), 0);
        due("20 and away", x.steps(12345, 0), 5);
        due("20 all of four", x.steps(0, 1234), 4);
        Check.none("21 none of five", x, y -> y.way(0, 12345, 0));
        Check.none("21 none of five, -1", x, y -> y.way(0, 12345, -1));
        Check.rule(x, "bars if year = 999");
        due("20 in 0", x.steps(12, 1), 1);
        x.terms(0, 998);
        due("20 in 998", x.steps(12, 1), 1);
        x.terms(0, 999);
        due("20 in 999: all one way, none", x.steps(12, 1), -1);
        Check.rule(x, "bars if sort = 1 and year = 0;bars if sort = 0 and year = 1");
        x.terms(0, 0);
        due("20 in by one in 0", x.steps(1, 12), -1);
        due("20 out by one in 0", x.steps(12, 1), 1);
        due("20 out, in: all in one YEAR", x.steps(12, 3), -1);
        x.terms(0, 1);
        due("20 in by one in 1", x.steps(1, 12), 1);
        due("20 out by one in 1", x.steps(12, 1), -1);
        due("20 in, out: all in one YEAR", x.steps(12, 3), -1);
        x.terms(0, 2);
        due("20 both in 2", x.steps(12, 3), 3);
    }

    /** The WAY: the i-th DISH (0: from). */
    private static void ways() {
        DishLines x = new DishLines();
        int[] way = {11111, 1111, 111, 11, 1, 0, 6, 66, 666, 6666, 66666};
        for (int i = 0; i < way.length; i++) {
            due("21 the " + i + "-th", x.way(11111, 66666, i), way[i]);
        }
        for (int i : new int[] {-1, -2, 11, 12}) {
            Check.none("21 i " + i, x, y -> y.way(11111, 66666, i));
        }
        for (int far : Check.FAR) {
            Check.none("21 i " + far, x, y -> y.way(11111, 66666, far));
            Check.none("21 to itself, i " + far, x, y -> y.way(12, 12, far));
        }
        due("21 to itself", x.way(0, 0, 0), 0);
        Check.none("21 to itself, 1", x, y -> y.way(0, 0, 1));
        Check.none("21 to itself, -1", x, y -> y.way(0, 0, -1));
        // the lowest NUMBER, not the first CHANGE: of 12 OUT makes 2 ahead of 1
        due("21 the lowest number", x.way(12, 0, 1), 1);
        // 21 to 13: 1 by OUT, 211 ..; 13 is two from 21: 1, 123 is not on the way
        due("21 two", x.steps(21, 13), 2);
        due("21 by 1", x.way(21, 13, 1), 1);
        x.put(0, 1, 0);
        due("21 the end alone", x.way(1, 1, 0), 1);
        Check.none("21 none leads there: 0", x, y -> y.way(2, 1, 0));
    }

    private static int between(int mother, int dish) {
        DishLines x = new DishLines();
        x.house(-1, 0, mother);
        x.house(0, 0, dish);
        return x.between(1, -1);
    }

    /** BETWEEN: DISHES 1 from the one and from which it is 1 to the other. */
    private static void betweenExtremes() {
        due("22 0 to 0: six", between(0, 0), 6);
        due("22 11111 to itself: 1111", between(11111, 11111), 1);
        due("22 12345 to itself: five out, four swaps", between(12345, 12345), 9);
        due("22 0 to 1: none", between(0, 1), 0);
        due("22 0 to 12: 1, 2", between(0, 12), 2);
        due("22 0 to 11: 1", between(0, 11), 1);
        due("22 12 to 0: 1, 2", between(12, 0), 2);
        due("22 0 to 123: none", between(0, 123), 0);
        due("22 11111 to 66666: none", between(11111, 66666), 0);
        due("22 1 to 2: 0, 12, 21", between(1, 2), 3);
        due("22 12345 to 12346: 1234", between(12345, 12346), 1);
        due("22 12345 to 21354: two swaps, either first", between(12345, 21354), 2);
    }

    private static void betweenBounds() {
        DishLines x = new DishLines();
        x.house(-1, 0, 1);
        x.house(0, 999, 2);
        due("22 how many", x.between(1, -1), 3);
        due("22 first", x.between(1, 0), 0);
        due("22 second", x.between(1, 1), 12);
        due("22 third", x.between(1, 2), 21);
        for (int i : new int[] {-2, 3, 4}) {
            Check.none("22 i " + i, x, y -> y.between(1, i));
        }
        for (int i = -1; i < 2; i++) {
            int at = i;
            Check.none("22 no mother, i " + i, x, y -> y.between(0, at));
            Check.none("22 no house 2, i " + i, x, y -> y.between(2, at));
            Check.none("22 no house -1, i " + i, x, y -> y.between(-1, at));
            Check.none("22 no house 12, i " + i, x, y -> y.between(12, at));
        }
        for (int far : Check.FAR) {
            Check.none("22 i " + far, x, y -> y.between(1, far));
            Check.none("22 house " + far, x, y -> y.between(far, -1));
        }
        Check.rule(x, "bars if year = 999 and sort = 0");
        due("22 in its own year: no out", x.between(1, -1), 0);
        due("22 none: the first", x.between(1, 0), -1);
        Check.rule(x, "bars if year < 999");
        due("22 in its own year alone", x.between(1, -1), 3);
        x.put(1, 1, 0);
        due("22 the other is not got", x.between(1, -1), 0);
        x.put(0, 2, 1);
        x.put(1, 1, 1);
        due("22 what is 1 from its MOTHER's may have DISHES between", x.between(1, -1), 3);
    }

    private static boolean keeps(int mother, int dish) {
        DishLines x = new DishLines();
        x.house(-1, 0, mother);
        x.house(0, 0, dish);
        due("23 one at most", x.judge(1), x.judge(0) == -1 ? 0 : 1);
        return x.judge(0) == -1;
    }

    /** KEEPS the custom, if by STEPS in its own YEAR its DISH is 1 from its MOTHER's. */
    private static void custom() {
        Check.holds("23 1: up", keeps(0, 6));
        Check.holds("23 1: down", keeps(6, 0));
        Check.holds("23 1: five", keeps(1234, 12345));
        Check.holds("23 1: double", keeps(1111, 11111));
        Check.holds("23 1: swap", keeps(12345, 12354));
        Check.holds("23 0: none changed", !keeps(0, 0));
        Check.holds("23 0: none changed of five", !keeps(11111, 11111));
        Check.holds("23 2", !keeps(0, 11));
        Check.holds("23 10", !keeps(11111, 66666));
        DishLines x = new DishLines();
        for (int i = 0; i < 12; i++) {
            x.house(i - 1, 0, 1);
        }
        due("23 all but the first: who", x.judge(0), 1);
        due("23 all but the first", x.judge(1), 11);
        DishLines z = Check.full(1);
        due("23 none of no mother", z.judge(0), -1);
        due("23 none of no mother: how many", z.judge(1), 0);
        for (int what : new int[] {-1, 2, 3}) {
            Check.none("23 what " + what, x, y -> y.judge(what));
        }
        for (int far : Check.FAR) {
            Check.none("23 what " + far, x, y -> y.judge(far));
        }
        DishLines u = new DishLines();
        for (int i = 0; i < 12; i++) {
            u.house(i - 1, i, i % 2);
        }
        due("23 all keep it", u.judge(1), 0);
        Check.rule(u, "bars if year = 11");
        due("23 the last alone", u.judge(0), 11);
        due("23 the last alone: how many", u.judge(1), 1);
        u.terms(0, 11);
        Check.rule(u, "bars if year = 0");
        due("23 the first has no mother", u.judge(1), 0);
    }

    /** POOR: no HOUSE of that YEAR or later has it, some earlier one does. */
    private static void poorBounds() {
        DishLines x = new DishLines();
        x.house(-1, 5, 1);
        due("24 one year alone", x.poor(-1), 0);
        x.house(-1, 5, 2);
        due("24 two of one year", x.poor(-1), 0);
        x.house(-1, 4, 3);
        due("24 an earlier one has it", x.poor(-1), 1);
        due("24 which", x.poor(0), 5 * 6 + 2);
        x.house(-1, 5, 3);
        due("24 one of that year has it, too", x.poor(-1), 0);
        x.undo();
        x.house(-1, 6, 3);
        // in 6: THINGS 0, 1; in 5: none, as a later one has 2
        due("24 a later one has it", x.poor(-1), 2);
        due("24 the first", x.poor(0), 36);
        due("24 the second", x.poor(1), 37);
        for (int i : new int[] {-2, 2, 3}) {
            Check.none("24 i " + i, x, y -> y.poor(i));
        }
        for (int far : Check.FAR) {
            Check.none("24 i " + far, x, y -> y.poor(far));
        }
        DishLines z = new DishLines();
        z.house(-1, 999, 0);
        due("24 of none that ever had it", z.poor(-1), 0);
        z.house(-1, 998, 6);
        due("24 the last year, the last thing", z.poor(0), 999 * 6 + 5);
        z.undo();
        z.house(-1, 0, 1);
        due("24 the first year had it", z.poor(0), 999 * 6);
        due("24 not in the first year", z.poor(-1), 1);
    }

    private static void poorMost() {
        DishLines x = new DishLines();
        x.house(-1, 0, 12345);
        x.house(-1, 0, 6);
        for (int i = 10; i >= 1; i--) {
            x.house(-1, i, 0);
        }
        due("24 the most", x.poor(-1), 60);
        for (int i = 0; i < 60; i++) {
            due("24 of the most, " + i, x.poor(i), 6 + i);
        }
        Check.none("24 behind the most", x, y -> y.poor(60));
        due("24 none when all are of one year", Check.full(1).poor(-1), 0);
    }

    /** Told HOUSES are bits: 0 tells none, one that is not there leaves none told. */
    private static void firstBits() {
        DishLines x = Check.full(12);
        for (int what = 0; what <= 2; what++) {
            int[] want = {0, 1, 12};
            int asked = what;
            for (int bits : new int[] {1, 2, 1 << 11, 3, 2049, 4094, 4095}) {
                due("25 told " + bits, x.first(bits, what), want[what]);
            }
            for (int bits : new int[] {0, 1 << 12, 4096 + 1, 8191, 1 << 16, 1 << 30, 1 << 31, (1 << 31) + 1, -1, -2, -4096,
                Integer.MAX_VALUE}) {
                Check.none("25 told " + bits, x, y -> y.first(bits, asked));
                Check.none("26 told " + bits, x, y -> y.lines(bits, asked));
                Check.none("29 told " + bits, x, y -> y.tastings(bits, asked));
            }
        }
        Check.none("25 what -1", x, y -> y.first(1, -1));
        Check.none("25 what 3", x, y -> y.first(1, 3));
        for (int far : Check.FAR) {
            Check.none("25 what " + far, x, y -> y.first(1, far));
        }
        x.undo();
        Check.none("25 one undone", x, y -> y.first(1 << 11, 0));
        Check.none("25 one undone, with others", x, y -> y.first(4095, 0));
        due("25 all that are left", x.first(2047, 2), 12);
    }

    private static void firstTwelve() {
        DishLines x = new DishLines();
        int[] dishes = {1, 12, 13, 14, 15, 16, 11, 21, 31, 41, 51, 61};
        for (int dish : dishes) {
            x.house(-1, 0, dish);
        }
        // 1 is 1 from each of the eleven, 0 from itself
        due("25 twelve", x.first(4095, 0), 11);
        due("25 twelve: how many", x.first(4095, 1), 1);
        due("25 twelve: which", x.first(4095, 2), 1);
        due("25 eleven", x.first(4094, 0), 11);
        due("25 eleven: which", x.first(4094, 2), 1);
        // 12 and 21 are one SWAP apart
        due("25 two", x.first(2 + 128, 0), 1);
        due("25 two: either", x.first(2 + 128, 1), 2);
        due("25 two: the lowest", x.first(2 + 128, 2), 12);
        DishLines z = new DishLines();
        z.house(-1, 0, 11111);
        z.house(-1, 0, 66666);
        due("25 far apart", z.first(3, 0), 10);
        // any with some of THING 0 ahead of, behind or among some of THING 5, as far as there is room, or the empty one
        Check.holds("25 far apart: many", z.first(3, 1) > 2);
        due("25 far apart: the lowest", z.first(3, 2), 0);
    }

    /** NONE: none told; none (no DISH from which there are STEPS to all). */
    private static void firstNone() {
        DishLines x = new DishLines();
        x.house(-1, 0, 1);
        x.house(-1, 0, 2);
        for (int i = 0; i < 6; i++) {
            x.put(i, 1, 0);
        }
        // nothing comes in, but 12 can go either way
        due("25 by out alone", x.first(3, 0), 2);
        due("25 by out alone: 12, 21", x.first(3, 1), 2);
        due("25 by out alone: 12", x.first(3, 2), 12);
        Check.rule(x, "bars if sort = 0 and place > 0;bars if sort = 2");
        Check.none("25 by out of the first alone", x, y -> y.first(3, 0));
        Check.none("25 by out of the first alone: how many", x, y -> y.first(3, 1));
        Check.none("25 by out of the first alone: which", x, y -> y.first(3, 2));
        due("25 one of them", x.first(2, 0), 0);
        Check.none("26 neither of the other", x, y -> y.lines(3, 0));
        Check.none("26 neither of the other: rows", x, y -> y.lines(3, 1));
        Check.none("26 neither of the other: mother", x, y -> y.lines(3, 2));
        due("26 one of them", x.lines(2, 2), 100);
    }

    /** LINES of told HOUSES, 6 at most. */
    private static void linesBits() {
        DishLines x = new DishLines();
        int[] dishes = {1, 11, 111, 1111, 11111, 2, 22, 222, 2222, 22222, 3, 33};
        for (int dish : dishes) {
            x.house(-1, 0, dish);
        }
        for (int house = 0; house < 12; house++) {
            due("26 one: steps", x.lines(1 << house, 0), 0);
            due("26 one: rows", x.lines(1 << house, 1), 1);
            due("26 one: mother", x.lines(1 << house, 2), 100);
            int bit = 1 << house;
            Check.none("26 one: a second", x, y -> y.lines(bit, 3));
        }
        due("26 five in a row", x.lines(31, 0), 4);
        due("26 five in a row: rows", x.lines(31, 1), 5);
        due("26 five in a row: of 0", x.lines(31, 2), 100);
        for (int i = 1; i < 5; i++) {
            due("26 five in a row: of " + i, x.lines(31, 2 + i), i - 1);
        }
        Check.none("26 five in a row: of a sixth", x, y -> y.lines(31, 7));
        due("26 six", x.lines(63, 0), 4 + 2);
        due("26 six: the last", x.lines(63, 7), 0);
        Check.none("26 six: a seventh", x, y -> y.lines(63, 8));
        due("26 the last six", x.lines(63 << 6, 7), 10);
        for (int bits : new int[] {127, 4064, 4095, 0b101010101111}) {
            for (int what = 0; what <= 8; what++) {
                int asked = what;
                Check.none("26 above six: " + bits, x, y -> y.lines(bits, asked));
            }
        }
        Check.none("26 what -1", x, y -> y.lines(3, -1));
        for (int far : Check.FAR) {
            Check.none("26 what " + far, x, y -> y.lines(3, far));
        }
        Check.none("26 none told", x, y -> y.lines(0, 0));
    }

    /** All rows weigh the same: each of six may be the first, and each tree counts. */
    private static void linesOfLikeOnes() {
        int[] trees = {0, 1, 2, 9, 64, 625, 7776};
        DishLines x = Check.full(345);
        for (int some = 1; some <= 6; some++) {
            for (int shift = 0; shift <= 12 - some; shift += 3) {
                int bits = (1 << some) - 1 << shift;
                due("26 like ones: steps", x.lines(bits, 0), 0);
                due("26 like ones: rows", x.lines(bits, 1), trees[some]);
                for (int i = 0; i < some; i++) {
                    due("26 like ones: of " + i, x.lines(bits, 2 + i), i == 0 ? 100 : shift);
                }
            }
        }
    }

    private static void linesOneWay() {
        DishLines x = new DishLines();
        for (int dish : new int[] {0, 1, 11, 111, 1111, 11111}) {
            x.house(-1, 0, dish);
        }
        x.put(0, 1, 0);
        due("26 down alone", x.lines(63, 0), 5);
        due("26 down alone: rows", x.lines(63, 1), 1);
        for (int i = 0; i < 6; i++) {
            due("26 down alone: of " + i, x.lines(63, 2 + i), i == 5 ? 100 : i + 1);
        }
        x.put(0, 1, 1);
        Check.rule(x, "bars if sort = 0");
        due("26 up alone", x.lines(63, 0), 5);
        due("26 up alone: rows", x.lines(63, 1), 1);
        for (int i = 0; i < 6; i++) {
            due("26 up alone: of " + i, x.lines(63, 2 + i), i == 0 ? 100 : i - 1);
        }
        DishLines z = new DishLines();
        z.house(-1, 900, 11);
        z.house(0, 950, 1);
        z.house(1, 999, 0);
        due("26 told YEARS, MOTHERS aside", z.lines(7, 1), 3);
        due("26 told YEARS, MOTHERS aside: of 0", z.lines(7, 2), 100);
        due("26 told YEARS, MOTHERS aside: of 2", z.lines(7, 4), 1);
    }

    /** n CHANGES 0 .. 3. */
    private static void chancesN() {
        DishLines x = new DishLines();
        due("27 n 0", x.odds(0, 0, 0), ALL);
        due("27 n 0, another", x.odds(0, 1, 0), 0);
        due("27 n 1, itself", x.odds(0, 0, 1), 0);
        due("27 n 1, too far", x.odds(0, 11, 1), 0);
        due("27 n 2, too far", x.odds(0, 111, 2), 0);
        Check.holds("27 n 3, just near", x.odds(0, 111, 3) > 0);
        due("27 n 3, too far", x.odds(0, 1111, 3), 0);
        due("28 n 0", x.likely(0, 0), 0);
        for (int n : new int[] {-1, 4, 5, 60}) {
            Check.none("27 n " + n, x, y -> y.odds(0, 0, n));
            Check.none("28 n " + n, x, y -> y.likely(0, n));
        }
        for (int far : Check.FAR) {
            Check.none("27 n " + far, x, y -> y.odds(0, 0, far));
            Check.none("28 n " + far, x, y -> y.likely(0, far));
        }
        long sum = 0;
        for (int dish : new int[] {0, 1, 2, 3, 4, 5, 6}) {
            sum += x.odds(0, dish, 1);
        }
        due("27 all but what was cut", sum, ALL - 4);
    }

    /** By WEIGHT of all these WEIGHTS, each CHANGE's part cut. */
    private static void chancesCut() {
        DishLines x = new DishLines();
        due("27 of 6", x.odds(0, 4, 1), ALL / 6);
        due("27 three of 14, each cut", x.odds(1, 11, 1), 3 * (ALL / 14));
        due("27 twice, each cut", x.odds(0, 0, 2), 6 * (ALL / 6 / 14));
        due("27 five: 9 of them", x.odds(12345, 12354, 1), ALL / 9);
        Check.rule(x, "weighs 0;weighs 99 if thing = 0;weighs 1 if thing = 1;weighs 2 if thing = 2");
        due("27 99 of 102", x.odds(0, 1, 1), ALL * 99 / 102);
        due("27 1 of 102", x.odds(0, 2, 1), ALL / 102);
        due("27 2 of 102", x.odds(0, 3, 1), ALL * 2 / 102);
        due("27 0 of 102", x.odds(0, 4, 1), 0);
        Check.rule(x, "weighs 99");
        due("27 the most of the most", x.odds(1234, 123, 1), ALL * 99 / (41 * 99));
        // IN of THING 0 alone weighs: 1 is sure, then 11 by two CHANGES, then 111 by three
        Check.rule(x, "weighs 0;weighs 3 if sort = 1 and thing = 0");
        due("27 sure", x.odds(0, 1, 1), ALL);
        due("27 by two halves", x.odds(0, 11, 2), ALL);
        due("27 by three thirds, each cut", x.odds(0, 111, 3), 3 * (ALL * 3 / 9));
    }

    /** What has no such CHANGE stays as it is. */
    private static void chancesThatStay() {
        DishLines x = new DishLines();
        for (String law : new String[] {"bars", "weighs 0", "weighs 0-7", "weighs 5;weighs 0", "weighs 5;bars"}) {
            Check.rule(x, law);
            for (int n = 0; n <= 3; n++) {
                due("27 " + law, x.odds(12345, 12345, n), ALL);
                due("28 " + law, x.likely(12345, n), 12345);
            }
        }
        DishLines z = new DishLines();
        Check.rule(z, "weighs 0;weighs 1 if sort = 0 and long > 3");
        due("27 down to three, and there it stays: 1", z.odds(12345, 1234, 1), ALL / 5);
        due("27 down to three, and there it stays: 2", z.odds(12345, 123, 2), 2 * (ALL / 5 / 4));
        due("27 down to three, and there it stays: 3", z.odds(12345, 123, 3), 2 * (ALL / 5 / 4));
        due("27 all has gone from four", z.odds(12345, 1234, 3), 0);
        DishLines u = new DishLines();
        for (int i = 0; i < 6; i++) {
            u.put(i, 1, 0);
        }
        due("27 the empty one has no change", u.odds(0, 0, 3), ALL);
        due("27 one goes and stays gone", u.odds(5, 0, 3), ALL);
    }

    /** What a DISH is likeliest, the lowest. */
    private static void likeliest() {
        DishLines x = new DishLines();
        due("28 all alike: the lowest", x.likely(0, 1), 1);
        due("28 five: the lowest of nine", x.likely(54321, 1), 4321);
        due("28 five like ones: all to one", x.likely(22222, 1), 2222);
        Check.rule(x, "weighs 5;weighs 6 if thing = 5");
        due("28 the last by weight", x.likely(0, 1), 6);
        Check.rule(x, "weighs 5;weighs 6 if thing > 3");
        due("28 the lower of two", x.likely(0, 1), 5);
        Check.rule(x, "bars if sort = 1 and long = 0");
        due("28 the empty one stays", x.likely(0, 3), 0);
        due("28 one PINCH: 3 of 14 to be two of it", x.likely(4, 1), 44);
    }

    /** TASTINGS of told HOUSES. */
    private static void tastingsBits() {
        DishLines x = Check.full(12);
        for (int bits : new int[] {1, 1 << 11, 3, 4095}) {
            due("29 like ones: how many", x.tastings(bits, 0), 0);
            due("29 like ones: of which", x.tastings(bits, 1), 0);
            due("29 like ones: ways", x.tastings(bits, 2), 1);
            due("29 like ones: groups", x.tastings(bits, 3), 1);
            Check.none("29 what -1", x, y -> y.tastings(bits, -1));
            Check.none("29 what 4", x, y -> y.tastings(bits, 4));
        }
        for (int far : Check.FAR) {
            Check.none("29 what " + far, x, y -> y.tastings(1, far));
        }
        DishLines z = new DishLines();
        z.house(-1, 0, 123);
        z.house(-1, 0, 321);
        z.house(-1, 0, 213);
        due("29 the order of PINCHES is not tasted", z.tastings(7, 3), 1);
        DishLines u = new DishLines();
        for (int dish : new int[] {0, 6, 66, 666, 6666, 66666}) {
            u.house(-1, 0, dish);
        }
        due("29 0 .. 5 PINCHES: one THING", u.tastings(63, 0), 1);
        due("29 0 .. 5 PINCHES: the last", u.tastings(63, 1), 32);
        due("29 0 .. 5 PINCHES: one way", u.tastings(63, 2), 1);
        due("29 0 .. 5 PINCHES: six groups", u.tastings(63, 3), 6);
    }

    private static void tastingsOfAll() {
        DishLines x = new DishLines();
        for (int dish = 0; dish <= 6; dish++) {
            x.house(-1, 0, dish);
        }
        due("29 all six THINGS", x.tastings(127, 0), 6);
        due("29 all six THINGS: bits", x.tastings(127, 1), 63);
        due("29 all six THINGS: one way", x.tastings(127, 2), 1);
        due("29 all six THINGS: seven groups", x.tastings(127, 3), 7);
        due("29 any five", x.tastings(126, 0), 5);
        due("29 any five: the lowest", x.tastings(126, 1), 31);
        due("29 any five: six ways", x.tastings(126, 2), 6);
        due("29 any five: six groups", x.tastings(126, 3), 6);
        due("29 the empty one and the last", x.tastings(65, 1), 32);
        due("29 the first two", x.tastings(3, 1), 1);
        due("29 two of them: two ways", x.tastings(6, 2), 2);
        DishLines z = new DishLines();
        for (int dish : new int[] {0, 1, 2, 12, 11, 22, 112, 122, 1122, 111, 222, 11122}) {
            z.house(-1, 0, dish);
        }
        due("29 twelve by two", z.tastings(4095, 0), 2);
        due("29 twelve by two: bits", z.tastings(4095, 1), 3);
        due("29 twelve groups", z.tastings(4095, 3), 12);
    }

    /** A COPY: a DISH from which all PINCHES of one THING were left out. */
    private static void copies() {
        due("30 all twelve", Check.full(12).copies(1), 4095);
        due("30 all twelve, the other", Check.full(12).copies(2), 4095);
        due("30 none of itself", Check.full(12).copies(12), 0);
        due("30 not two THINGS left out", Check.full(12).copies(0), 0);
        due("30 all of one THING", Check.full(66666).copies(0), 4095);
        due("30 not some of one THING", Check.full(66666).copies(6666), 0);
        due("30 nothing is left out of the empty one", Check.full(0).copies(0), 0);
        due("30 of five, one", Check.full(12345).copies(1235), 4095);
        due("30 of five, in order", Check.full(12345).copies(1325), 0);
        DishLines x = Check.full(3);
        x.undo();
        x.house(-1, 0, 63);
        due("30 the last alone", x.copies(3), 2048);
        due("30 all but the last", x.copies(0), 2047);
        x.undo();
        due("30 undone", x.copies(3), 0);
        DishLines z = new DishLines();
        z.house(-1, 0, 12121);
        z.put(0, 1, 0);
        due("30 got or not", z.copies(22), 1);
        due("30 the other THING", z.copies(111), 1);
    }

    /** STOOD IN FOR: and so on till one is GOT; NONE: one is by none, or in a ring. */
    private static void stood() {
        DishLines x = new DishLines();
        for (int i = 0; i < 5; i++) {
            x.put(i, 1, 0);
            x.put(i, 2, i + 1);
        }
        due("31 a chain of six", x.stood(11111), 66666);
        due("31 each its own chain", x.stood(12345), 66666);
        due("31 got", x.stood(6), 6);
        due("31 the empty one", x.stood(0), 0);
        x.put(5, 1, 0);
        Check.none("31 by none in the end", x, y -> y.stood(1));
        Check.none("31 by none at once", x, y -> y.stood(6));
        due("31 the empty one all the same", x.stood(0), 0);
        x.put(5, 2, 0);
        Check.none("31 a ring of six", x, y -> y.stood(1));
        Check.none("31 a ring of six, its last", x, y -> y.stood(6));
        x.put(3, 1, 1);
        due("31 a ring with one that is got", x.stood(65432), 44444);
        DishLines z = new DishLines();
        z.put(0, 1, 0);
        z.put(1, 1, 0);
        z.put(0, 2, 1);
        z.put(1, 2, 0);
        Check.none("31 a ring of two", z, y -> y.stood(1));
        Check.none("31 one of five in a ring", z, y -> y.stood(33332));
        due("31 none of five in it", z.stood(33333), 33333);
        z.put(1, 1, 1);
        due("31 got, though it has a stand-in", z.stood(12), 22);
        DishLines u = new DishLines();
        u.put(4, 1, 0);
        Check.none("31 one of five by none", u, y -> y.stood(12345));
        Check.none("31 the first of five by none", u, y -> y.stood(51234));
        due("31 in their places", u.stood(12346), 12346);
        u.put(4, 2, 0);
        due("31 the last of five", u.stood(12345), 12341);
        due("31 the first of five", u.stood(51234), 11234);
    }

    /** What is GOT, STANDS IN and the LAW in FORCE are as they are now in all YEARS. */
    private static void rulesOfNow() {
        DishLines x = new DishLines();
        x.house(-1, 10, 1);
        x.terms(0, 10);
        x.born(0, 1, 1, 1);
        due("23 it keeps it", x.judge(1), 0);
        due("7 one step", x.at(1, 4), 1);
        x.put(1, 1, 0);
        due("23 what is not got now was never", x.judge(1), 1);
        due("7 no step now", x.at(1, 4), -1);
        due("22 nor between", x.between(1, -1), 0);
        x.put(0, 2, 1);
        due("7 by double and a stand-in now", x.at(1, 4), 2);
        due("22 2 is between now", x.between(1, 0), 2);
        due("22 11 is, too", x.between(1, 1), 11);
        x.put(1, 1, 1);
        Check.rule(x, "bars if sort = 1");
        due("7 barred now", x.at(1, 4), 2);
        x.terms(1, 4);
        Check.rule(x, "bars if mood = 4 and sort = 1");
        due("7 the mood is that of now", x.at(1, 4), 2);
        x.terms(1, 5);
        due("7 another mood", x.at(1, 4), 1);
        Check.rule(x, "bars if sweet = 9 and sort = 1");
        x.put(1, 0, 9);
        due("7 the sweet is that of now", x.at(1, 4), 2);
        x.force(-1);
        due("7 no law now", x.at(1, 4), 1);
    }

    /** All in one YEAR: what was asked in another one, later or earlier, is of no account. */
    private static void yearsBackAndForth() {
        for (int open : new int[] {0, 1, 500, 999}) {
            DishLines x = new DishLines();
            x.house(-1, 0, 1);
            x.house(0, 0, 12);
            StringBuilder law = new StringBuilder("bars if not year = ").append(open);
            Check.rule(x, law.append(";weighs 0;weighs 1 if thing = 1").toString());
            for (int year : new int[] {999, 0, 1, 0, 500, 0, 999, 1, 500, 0}) {
                x.terms(0, year);
                boolean can = year == open;
                due("20 " + open + " in " + year, x.steps(1, 12), can ? 1 : -1);
                due("20 back, " + open + " in " + year, x.steps(12, 1), can ? 1 : -1);
                due("21 " + open + " in " + year, x.way(12, 1, 1), can ? 1 : -1);
                due("25 " + open + " in " + year, x.first(3, 0), can ? 1 : -1);
                due("26 " + open + " in " + year, x.lines(3, 1), can ? 2 : -1);
                due("27 " + open + " in " + year, x.odds(12, 1, 1), can ? odds() : 0);
                due("28 " + open + " in " + year, x.likely(1, 1), can ? 12 : 1);
                due("7 in its own, " + open, x.at(1, 4), open == 0 ? 1 : -1);
                due("23 in its own, " + open, x.judge(1), open == 0 ? 0 : 1);
            }
        }
    }

    /** Of 12 there are, of THING 1: 1 OUT, 3 IN, 1 DOUBLE. */
    private static long odds() {
        return ALL / 5;
    }
}
