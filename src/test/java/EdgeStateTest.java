/**
 * The document's sentences that name a limit, each with what lies just within, just beyond and far beyond it:
 * Terms I and IV, what a call is REFUSED by, promises 1 to 12 and 32 to 37.
 */
public final class EdgeStateTest {
    static final int[] GOOD_DISHES = {0, 1, 6, 11, 61, 66, 111, 666, 1111, 6666, 11111, 12345, 66666};
    static final int[] BAD_DISHES = {7, 8, 9, 10, 17, 20, 60, 67, 70, 100, 101, 106, 117, 671, 1000, 1011, 1101, 1110,
        6667, 10000, 10111, 11011, 11101, 11110, 66660, 66667, 66676, 67666, 70000, 99999, 100000, 101111, 111111, 123456,
        666666, 1000000, 1111111, -1, -6, -11, -66666};

    public static void main(String[] args) {
        emptyValley();
        things();
        sweet();
        gotOrNot();
        standIns();
        dishes();
        twelveHouses();
        mothers();
        yearsOfHouses();
        terms();
        orderOfRefusals();
        orderOfRefusalsOfBorn();
        bornPlaces();
        undoneToNone();
        askedOfHouses();
        tapeOf400();
        tapeCut();
        emptyRow();
        rowOfOne();
        burnt();
        rowWithoutRoom();
        seeds();
        draws();
        lengthOfLines();
        yearsOfLines();
        latestLine();
        twoImages();
        imagesOfExtremes();
        imagesAreNotMixed();
        imagesKeepNoCounts();
        counts();
        statusOfTwelve();
        manyCalls();
        Check.end();
    }

    private static void due(String what, long got, long want) {
        Check.due(what, got, want);
    }

    private static int year(int year) {
        DishLines x = new DishLines();
        x.terms(0, year);
        return x.count(9);
    }

    /** A new object: a valley without HOUSES. Whatever asks for one finds none. */
    private static void emptyValley() {
        for (int house : new int[] {-1, 0, 1, 11, 12}) {
            for (int what = -1; what <= 6; what++) {
                due("1 at " + house, new DishLines().at(house, what), -1);
            }
            due("1 between " + house, new DishLines().between(house, -1), -1);
            due("1 between " + house, new DishLines().between(house, 0), -1);
            due("1 born of " + house, new DishLines().born(house, 1, 0, 0), -2);
            due("1 line of " + house, new DishLines().line(0, house, 1), -2);
        }
        DishLines x = new DishLines();
        due("1 judge", x.judge(0), -1);
        due("1 judge: how many", x.judge(1), 0);
        due("1 poor", x.poor(-1), 0);
        due("1 poor: first", x.poor(0), -1);
        due("1 first", x.first(1, 1), -1);
        due("1 lines", x.lines(1, 1), -1);
        due("1 tastings", x.tastings(1, 3), -1);
        due("1 tastings of none", x.tastings(0, 3), -1);
        due("1 copies", x.copies(0), 0);
        due("1 steps", x.steps(0, 66666), 5);
        due("1 stood", x.stood(66666), 66666);
        due("1 odds", x.odds(0, 0, 0), 1000000000000L);
        due("1 force", x.force(0), -2);
        due("1 back", x.back(0), -2);
        due("1 burnt", x.burnt(), 0);
        due("1 stopped", x.stopped(), -1);
        due("1 fault", x.fault(), -1);
        due("1 drawn", x.drawn(0), -1);
        due("1 two objects are two", new DishLines().house(-1, 0, 1) + new DishLines().house(-1, 0, 1), 0);
    }

    /** THINGS 0 .. 5 (promises 2, 3); what 0 .. 2. */
    private static void things() {
        DishLines x = new DishLines();
        for (int thing : new int[] {0, 5}) {
            due("2 sweet of " + thing, x.put(thing, 0, 3), 0);
            due("2 got of " + thing, x.put(thing, 1, 0), 1);
            due("2 stand-in of " + thing, x.put(thing, 2, 2), -1);
            due("3 sweet of " + thing, x.of(thing, 0), 3);
            due("3 got of " + thing, x.of(thing, 1), 0);
            due("3 stand-in of " + thing, x.of(thing, 2), 2);
        }
        for (int thing = 1; thing < 5; thing++) {
            due("3 the others: sweet", x.of(thing, 0), 0);
            due("3 the others: got", x.of(thing, 1), 1);
            due("3 the others: stand-in", x.of(thing, 2), -1);
        }
        for (int what = 0; what <= 2; what++) {
            wrongThing(x, -1, what);
            wrongThing(x, 6, what);
            for (int far : Check.FAR) {
                wrongThing(x, far, what);
            }
        }
        wrongWhat(x, -1);
        wrongWhat(x, 3);
        for (int far : Check.FAR) {
            wrongWhat(x, far);
        }
    }

    private static void wrongThing(DishLines x, int thing, int what) {
        Check.refused("2 thing " + thing, x, -1, y -> y.put(thing, what, 1));
        Check.none("3 thing " + thing, x, y -> y.of(thing, what));
    }

    private static void wrongWhat(DishLines x, int what) {
        Check.refused("2 what " + what, x, -1, y -> y.put(0, what, 0));
        Check.none("3 what " + what, x, y -> y.of(0, what));
    }

    /** SWEET 0 .. 9. */
    private static void sweet() {
        DishLines x = new DishLines();
        int was = 0;
        for (int value : new int[] {0, 9, 9, 0, 8, 1}) {
            due("2 sweet " + value, x.put(3, 0, value), was);
            due("3 sweet " + value, x.of(3, 0), value);
            was = value;
        }
        Check.refused("2 sweet -1", x, -1, y -> y.put(3, 0, -1));
        Check.refused("2 sweet 10", x, -1, y -> y.put(3, 0, 10));
        for (int far : Check.FAR) {
            Check.refused("2 sweet " + far, x, -1, y -> y.put(3, 0, far));
        }
    }

    /** GOT (1) or not (0). */
    private static void gotOrNot() {
        DishLines x = new DishLines();
        due("2 got still", x.put(4, 1, 1), 1);
        due("2 got no more", x.put(4, 1, 0), 1);
        due("2 got no more still", x.put(4, 1, 0), 0);
        Check.refused("2 got -1", x, -1, y -> y.put(4, 1, -1));
        Check.refused("2 got 2", x, -1, y -> y.put(4, 1, 2));
        for (int far : Check.FAR) {
            Check.refused("2 got " + far, x, -1, y -> y.put(4, 1, far));
        }
        due("2 got again", x.put(4, 1, 1), 0);
    }

    /** A STAND-IN: another THING, or NONE. */
    private static void standIns() {
        for (int thing = 0; thing < 6; thing++) {
            DishLines x = new DishLines();
            int was = -1;
            for (int value = -1; value < 6; value++) {
                int own = thing;
                int other = value;
                if (value == thing) {
                    Check.refused("2 its own", x, -1, y -> y.put(own, 2, other));
                    continue;
                }
                due("2 stand-in " + value, x.put(thing, 2, value), was);
                due("2 stand-in: status", x.status(), 0);
                due("3 stand-in " + value, x.of(thing, 2), value);
                was = value;
            }
            due("2 stand-in none", x.put(thing, 2, -1), was);
            due("3 stand-in none", x.of(thing, 2), -1);
        }
        DishLines x = new DishLines();
        x.put(3, 2, 1);
        Check.refused("2 stand-in -2", x, -1, y -> y.put(3, 2, -2));
        Check.refused("2 stand-in 6", x, -1, y -> y.put(3, 2, 6));
        for (int far : Check.FAR) {
            Check.refused("2 stand-in " + far, x, -1, y -> y.put(3, 2, far));
        }
    }

    /** A DISH: digits 1 .. 6, 5 at most (0: an empty one), wherever a call takes one. */
    private static void dishes() {
        for (int dish : GOOD_DISHES) {
            DishLines x = new DishLines();
            due("4 dish " + dish, x.house(-1, 0, dish), 0);
            due("7 dish " + dish, x.at(0, 2), dish);
            Check.holds("19 dish " + dish, x.changes(dish, -1) > 0);
            due("20 dish " + dish, x.steps(dish, dish), 0);
            due("21 dish " + dish, x.way(dish, dish, 0), dish);
            due("27 dish " + dish, x.odds(dish, dish, 0), 1000000000000L);
            due("28 dish " + dish, x.likely(dish, 0), dish);
            due("30 dish " + dish, x.copies(dish), 0);
            due("31 dish " + dish, x.stood(dish), dish);
            due("6 dish " + dish, x.undo(), dish);
        }
        DishLines x = new DishLines();
        x.house(-1, 0, 12);
        for (int dish : BAD_DISHES) {
            wrongDish(x, dish);
        }
        for (int far : Check.FAR) {
            wrongDish(x, far);
        }
    }

    private static void wrongDish(DishLines x, int dish) {
        Check.refused("4 dish " + dish, x, -1, y -> y.house(-1, 0, dish));
        Check.none("18 dish " + dish, x, y -> y.change(dish, 0, 0, 0, 0));
        Check.none("18 dish, weighs " + dish, x, y -> y.change(dish, 1, 0, 0, 1));
        Check.none("19 dish " + dish, x, y -> y.changes(dish, -1));
        Check.none("19 dish, first " + dish, x, y -> y.changes(dish, 0));
        Check.none("20 from dish " + dish, x, y -> y.steps(dish, 1));
        Check.none("20 to dish " + dish, x, y -> y.steps(1, dish));
        Check.none("20 between dish " + dish, x, y -> y.steps(dish, dish));
        Check.none("21 from dish " + dish, x, y -> y.way(dish, 1, 0));
        Check.none("21 to dish " + dish, x, y -> y.way(1, dish, 0));
        Check.none("27 dish " + dish, x, y -> y.odds(dish, 1, 0));
        Check.none("27 to dish " + dish, x, y -> y.odds(1, dish, 1));
        Check.none("27 twice dish " + dish, x, y -> y.odds(dish, dish, 0));
        Check.none("28 dish " + dish, x, y -> y.likely(dish, 0));
        Check.none("30 dish " + dish, x, y -> y.copies(dish));
        Check.none("31 dish " + dish, x, y -> y.stood(dish));
    }

    /** HOUSES 0 .. 11 (12 at most): by each call that brings one. */
    private static void twelveHouses() {
        DishLines x = new DishLines();
        for (int i = 0; i < 12; i++) {
            due("4 the " + i + "-th", x.house(-1, 0, 0), i);
        }
        due("36 twelve", x.count(0), 12);
        Check.refused("4 a thirteenth", x, -5, y -> y.house(-1, 0, 0));
        Check.refused("5 a thirteenth", x, -5, y -> y.born(11, 1, 0, 0));
        Check.text(x, "born 0 in 0 at 0");
        Check.refusedText("14 a thirteenth", x, -5, DishLines::orders);
        due("16 a thirteenth", x.stopped(), 0);
        Check.bytes(x, 1);
        due("11 a thirteenth", x.row(), 0);
        due("12 a thirteenth", x.burnt(), 1);
        due("7 the last one", x.at(11, 1), 0);
        due("7 no thirteenth", x.at(12, 1), -1);
        x.undo();
        due("5 a twelfth again", x.born(0, 1, 0, 0), 11);
        x.undo();
        due("14 a twelfth again", Check.orders(x, "born 0 in 0 at 0"), 1);
        x.undo();
        Check.bytes(x, 5, 0, 6);
        due("11 a twelfth again", x.row(), 1);
        due("12 a thirteenth again", x.burnt(), 1);
        due("7 the twelfth is the first of the ROW", x.at(11, 2), 5);
    }

    /** A MOTHER: an earlier HOUSE, or NONE. */
    private static void mothers() {
        DishLines x = new DishLines();
        Check.refused("4 no earlier one", x, -2, y -> y.house(0, 0, 1));
        x.house(-1, 0, 1);
        x.house(0, 0, 1);
        for (int mother : new int[] {-2, 2, 3, 11, 12}) {
            Check.refused("4 mother " + mother, x, -2, y -> y.house(mother, 0, 1));
            Check.refused("5 mother " + mother, x, -2, y -> y.born(mother, 0, 0, 0));
        }
        for (int far : Check.FAR) {
            Check.refused("4 mother " + far, x, -2, y -> y.house(far, 0, 1));
            Check.refused("5 mother " + far, x, -2, y -> y.born(far, 0, 0, 0));
        }
        Check.refused("5 mother none", x, -2, y -> y.born(-1, 0, 0, 0));
        due("4 mother 1", x.house(1, 0, 1), 2);
        due("4 mother none", x.house(-1, 0, 1), 3);
        for (int i = 4; i < 12; i++) {
            x.house(i - 1, 0, 1);
        }
        due("7 the last one's mother", x.at(11, 0), 10);
        due("7 mother none", x.at(3, 0), -1);
    }

    /** A YEAR 0 .. 999, none ahead of the MOTHER's. */
    private static void yearsOfHouses() {
        DishLines x = new DishLines();
        due("4 year 0", x.house(-1, 0, 1), 0);
        due("4 year 999", x.house(0, 999, 1), 1);
        due("4 year 999 of 999", x.house(1, 999, 1), 2);
        due("4 of no mother: any", x.house(-1, 0, 1), 3);
        due("4 year 500", x.house(3, 500, 1), 4);
        due("7 year 0", x.at(0, 1), 0);
        due("7 year 999", x.at(1, 1), 999);
        for (int mother = -1; mother < 2; mother++) {
            int of = mother;
            Check.refused("4 year -1", x, -1, y -> y.house(of, -1, 1));
            Check.refused("4 year 1000", x, -1, y -> y.house(of, 1000, 1));
            for (int far : Check.FAR) {
                Check.refused("4 year " + far, x, -1, y -> y.house(of, far, 1));
            }
        }
        Check.refused("4 year 998 of 999", x, -3, y -> y.house(1, 998, 1));
        Check.refused("4 year 0 of 999", x, -3, y -> y.house(1, 0, 1));
        Check.refused("4 year 499 of 500", x, -3, y -> y.house(4, 499, 1));
        due("4 year 500 of 500", x.house(4, 500, 1), 5);
        x.terms(0, 499);
        Check.refused("5 year 499 of 500", x, -3, y -> y.born(4, 0, 0, 0));
        x.terms(0, 500);
        due("5 year 500 of 500", x.born(4, 0, 0, 0), 6);
        due("7 its year", x.at(6, 1), 500);
        x.terms(0, 998);
        Check.refused("5 year 998 of 999", x, -3, y -> y.born(1, 0, 0, 0));
        x.terms(0, 999);
        due("5 year 999 of 999", x.born(1, 0, 0, 0), 7);
    }

    /** TERMS: 0 YEAR 0 .. 999, 1 MOOD 0 .. 9. */
    private static void terms() {
        due("8 year 0", year(0), 0);
        due("8 year 999", year(999), 999);
        DishLines x = new DishLines();
        due("8 year was 0", x.terms(0, 0), 0);
        due("8 year was 0 again", x.terms(0, 999), 0);
        due("8 year was 999", x.terms(0, 7), 999);
        due("8 mood was 0", x.terms(1, 9), 0);
        due("8 mood was 9", x.terms(1, 9), 9);
        Check.refused("8 year -1", x, -1, y -> y.terms(0, -1));
        Check.refused("8 year 1000", x, -1, y -> y.terms(0, 1000));
        Check.refused("8 mood -1", x, -1, y -> y.terms(1, -1));
        Check.refused("8 mood 10", x, -1, y -> y.terms(1, 10));
        Check.refused("8 what -1", x, -1, y -> y.terms(-1, 0));
        Check.refused("8 what 2", x, -1, y -> y.terms(2, 0));
        for (int far : Check.FAR) {
            Check.refused("8 year " + far, x, -1, y -> y.terms(0, far));
            Check.refused("8 mood " + far, x, -1, y -> y.terms(1, far));
            Check.refused("8 what " + far, x, -1, y -> y.terms(far, 0));
        }
        due("36 year stays", x.count(9), 7);
        due("36 mood stays", x.count(10), 9);
    }

    /** The first of these in that order: -1, -2, -3, -5, -6. */
    private static void orderOfRefusals() {
        DishLines x = new DishLines();
        x.house(-1, 10, 1);
        Check.refused("4 -1 (year) ahead of -2", x, -1, y -> y.house(7, 1000, 1));
        Check.refused("4 -1 (dish) ahead of -2", x, -1, y -> y.house(7, 0, 7));
        Check.refused("4 -1 (dish) ahead of -3", x, -1, y -> y.house(0, 9, 7));
        Check.refused("4 -2 ahead of -3", x, -2, y -> y.house(-2, 9, 1));
        for (int i = 1; i < 12; i++) {
            x.house(-1, 10, 1);
        }
        Check.refused("4 -1 (year) ahead of -5", x, -1, y -> y.house(-1, 1000, 1));
        Check.refused("4 -1 (dish) ahead of -5", x, -1, y -> y.house(-1, 0, 7));
        Check.refused("4 -2 ahead of -5", x, -2, y -> y.house(12, 10, 1));
        Check.refused("4 -3 ahead of -5", x, -3, y -> y.house(0, 9, 1));
        Check.refused("4 -5", x, -5, y -> y.house(0, 10, 1));
        Check.refused("32 -1 (seed) ahead of -2", x, -1, y -> y.line(-1, 12, 1));
        Check.refused("32 -1 (n) ahead of -2", x, -1, y -> y.line(0, 12, 61));
        Check.refused("35 -1 ahead of -2", x, -1, y -> y.back(2));
        Check.refused("35 -2", x, -2, y -> y.back(1));
        for (int i = 0; i < 6; i++) {
            Check.law(x, "bars");
        }
        Check.text(x, "no law");
        Check.refusedText("13 -5 ahead of -6", x, -5, DishLines::law);
        Check.text(x, "born 0 in 0 at 7");
        Check.refusedText("14 -3 ahead of -5", x, -3, DishLines::orders);
        Check.text(x, "born 0 in 0 at 0; born");
        Check.refusedText("14 -6: not run at all", x, -6, DishLines::orders);
    }

    private static void orderOfRefusalsOfBorn() {
        DishLines x = new DishLines();
        x.house(-1, 10, 1);
        x.terms(0, 9);
        Check.refused("5 -1 (sort) ahead of -2", x, -1, y -> y.born(7, 5, 0, 0));
        Check.refused("5 -1 (place) ahead of -2", x, -1, y -> y.born(7, 0, 6, 0));
        Check.refused("5 -1 (thing) ahead of -2", x, -1, y -> y.born(7, 1, 0, 6));
        Check.refused("5 -1 ahead of -3", x, -1, y -> y.born(0, 0, 6, 0));
        Check.refused("5 -2 ahead of -3", x, -2, y -> y.born(1, 0, 5, 0));
        Check.refused("5 -3 (both)", x, -3, y -> y.born(0, 0, 5, 0));
        for (int i = 1; i < 12; i++) {
            x.house(-1, 0, 1);
        }
        Check.refused("5 -1 ahead of -5", x, -1, y -> y.born(1, 1, 0, -1));
        Check.refused("5 -2 ahead of -5", x, -2, y -> y.born(12, 1, 0, 0));
        Check.refused("5 -3 (year) ahead of -5", x, -3, y -> y.born(0, 0, 0, 0));
        Check.refused("5 -3 (change) ahead of -5", x, -3, y -> y.born(1, 0, 1, 0));
        Check.refused("5 -5", x, -5, y -> y.born(1, 0, 0, 0));
    }

    /** sort, place 0 .. 5, THING (for IN alone). */
    private static void bornPlaces() {
        DishLines x = new DishLines();
        x.house(-1, 0, 12345);
        Check.refused("5 sort -1", x, -1, y -> y.born(0, -1, 0, 0));
        Check.refused("5 sort 5", x, -1, y -> y.born(0, 5, 0, 0));
        for (int sort = 0; sort < 5; sort++) {
            int its = sort;
            Check.refused("5 place -1", x, -1, y -> y.born(0, its, -1, 0));
            Check.refused("5 place 6", x, -1, y -> y.born(0, its, 6, 0));
            Check.refused("5 place 5: a number that can be", x, -3, y -> y.born(0, its, 5, 0));
            for (int far : Check.FAR) {
                Check.refused("5 place " + far, x, -1, y -> y.born(0, its, far, 0));
            }
        }
        Check.refused("5 thing -1", x, -1, y -> y.born(0, 1, 0, -1));
        Check.refused("5 thing 6", x, -1, y -> y.born(0, 1, 0, 6));
        for (int far : Check.FAR) {
            Check.refused("5 sort " + far, x, -1, y -> y.born(0, far, 0, 0));
            Check.refused("5 thing " + far, x, -1, y -> y.born(0, 1, 0, far));
        }
        x.put(0, 2, 5);
        for (int far : new int[] {-1, 6, Integer.MIN_VALUE, Integer.MAX_VALUE}) {
            due("5 no thing is asked for: out", x.born(0, 0, 4, far), 1);
            due("5 no thing is asked for: double", x.born(1, 3, 0, far), 2);
            due("5 no thing is asked for: swap", x.born(0, 2, 3, far), 3);
            due("5 no thing is asked for: stand", x.born(0, 4, 0, far), 4);
            due("5 they are", x.at(1, 2) + x.at(2, 2) + x.at(3, 2) + x.at(4, 2), 1234 + 11234 + 12354 + 62345);
            x.undo();
            x.undo();
            x.undo();
            x.undo();
        }
    }

    /** -3 there is none. */
    private static void undoneToNone() {
        DishLines x = new DishLines();
        Check.refused("6 none yet", x, -3, DishLines::undo);
        for (int i = 0; i < 12; i++) {
            x.house(i - 1, i, i % 6 + 1);
        }
        for (int i = 11; i >= 0; i--) {
            due("6 the " + i + "-th", x.undo(), i % 6 + 1);
            due("6 status", x.status(), 0);
            due("6 how many", x.count(0), i);
            due("6 it is gone", x.at(i, 2), -1);
            due("6 its mother's daughters", x.at(i - 1, 3), i > 0 ? 0 : -1);
        }
        Check.refused("6 none any more", x, -3, DishLines::undo);
        due("6 the first again", x.house(-1, 999, 0), 0);
        due("6 an empty one", x.undo(), 0);
        due("6 an empty one: status", x.status(), 0);
    }

    private static void askedOfHouses() {
        DishLines x = new DishLines();
        x.house(-1, 0, 1);
        x.house(0, 999, 66666);
        for (int house : new int[] {-1, 2, 11, 12}) {
            for (int what = 0; what <= 5; what++) {
                int asked = what;
                Check.none("7 house " + house, x, y -> y.at(house, asked));
            }
        }
        for (int house = 0; house < 2; house++) {
            int of = house;
            Check.none("7 what -1", x, y -> y.at(of, -1));
            Check.none("7 what 6", x, y -> y.at(of, 6));
        }
        for (int far : Check.FAR) {
            Check.none("7 house " + far, x, y -> y.at(far, 1));
            Check.none("7 what " + far, x, y -> y.at(0, far));
        }
        due("7 daughters of who has twelve but her", Check.full(1).at(0, 3), 0);
        DishLines z = new DishLines();
        z.house(-1, 0, 1);
        for (int i = 1; i < 12; i++) {
            z.house(0, 0, 1);
        }
        due("7 eleven daughters", z.at(0, 3), 11);
        due("7 a daughter's", z.at(11, 3), 0);
        for (int i = 1; i < 12; i++) {
            due("7 back 1", z.at(i, 5), 1);
        }
        DishLines u = new DishLines();
        for (int i = 0; i < 12; i++) {
            u.house(i - 1, 0, i % 11 == 0 ? 5 : i == 10 ? 6 : 11);
        }
        due("7 back eleven", u.at(11, 5), 11);
        due("7 not back", u.at(10, 5), -1);
        due("7 back to the nearest", u.at(9, 5), 1);
        due("7 the first is never back", u.at(0, 5), -1);
        DishLines v = new DishLines();
        v.house(-1, 0, 1);
        v.house(-1, 0, 2);
        v.house(0, 0, 2);
        v.house(0, 0, 2);
        due("7 neither back to one of no kin", v.at(2, 5), -1);
        due("7 nor to a sister", v.at(3, 5), -1);
        due("7 one out, five in", x.at(1, 4), 6);
    }

    /** A TAPE of at most 400 bytes: NONE, if there would be more. */
    private static void tapeOf400() {
        DishLines x = new DishLines();
        for (int i = 1; i <= 20; i++) {
            due("9 twenty more", x.feed(i, 0, 0, 0, 0), 20 * i);
            due("36 twenty more", x.count(2), 20 * i);
        }
        Check.none("9 more than 400", x, y -> y.feed(1, 1, 1, 1, 1));
        for (int n = 399; n > 380; n--) {
            due("10 " + n, x.end(n), n);
            Check.none("9 behind " + n, x, y -> y.feed(1, 1, 1, 1, 1));
        }
        due("10 380", x.end(380), 380);
        due("9 behind 380", x.feed(0x06000000, 0, 0, 0, 0x00000006), 400);
        due("11 of 1 .. 19 and 6, 6: up to 6", x.row(), 8);
        due("12 of 1 .. 19: above 6", x.burnt(), 13);
        due("36 empty", x.count(2), 0);
        due("9 again", x.feed(0, 0, 0, 0, 0), 20);
        x.end(0);
        // each byte by its highest bit alone, and four of 255
        due("9 wrapped bytes", x.feed(0x80808080, 0, Integer.MIN_VALUE, 0x00800000, -1), 20);
        due("11 wrapped bytes", x.row(), 0);
        due("12 wrapped bytes", x.burnt(), 4);
        DishLines z = new DishLines();
        z.feed(0x06050403, 0x02000001, 0x00000200, 0x00030000, 0x04000006);
        due("9 the highest first", z.row(), 6);
        int[] want = {65432, 1, 2, 3, 4, 6};
        for (int i = 0; i < 6; i++) {
            due("9 the highest first: " + i, z.at(i, 2), want[i]);
        }
    }

    /** NONE, if it has not so many, or n is below 0. */
    private static void tapeCut() {
        DishLines x = new DishLines();
        Check.none("10 of none: 1", x, y -> y.end(1));
        Check.none("10 of none: -1", x, y -> y.end(-1));
        due("10 of none: none", x.end(0), 0);
        x.feed(0x01010101, 0x01000000, 0x02000000, 0, 0x00000003);
        Check.none("10 21", x, y -> y.end(21));
        Check.none("10 400", x, y -> y.end(400));
        Check.none("10 -1", x, y -> y.end(-1));
        for (int far : Check.FAR) {
            Check.none("10 " + far, x, y -> y.end(far));
        }
        due("10 all", x.end(20), 20);
        due("10 one less", x.end(19), 19);
        Check.none("10 no more of what was cut", x, y -> y.end(20));
        due("10 nine", x.end(9), 9);
        due("10 five", x.row() * 10 + x.count(0), 22);
        due("10 the second", x.at(1, 2), 2);
        x.feed(0x01010101, 0, 0, 0, 0);
        due("10 nothing", x.end(0), 0);
        Check.refused("11 nothing", x, -6, DishLines::row);
    }

    /** -6 the TAPE is empty. */
    private static void emptyRow() {
        DishLines x = Check.full(12);
        Check.refused("11 empty", x, -6, DishLines::row);
        Check.bytes(x, 0);
        due("11 a 0 alone", x.row(), 0);
        due("11 a 0 alone: status", x.status(), 0);
        due("12 an empty one is not burnt, room or none", x.burnt(), 0);
        due("36 empty then", x.count(2), 0);
        Check.bytes(x, 1, 0, 2, 0, 3);
        due("11 none has room", x.row(), 0);
        due("12 none has room", x.burnt(), 3);
        Check.refused("11 empty then", x, -6, DishLines::row);
        due("12 stays", x.burnt(), 3);
        Check.bytes(x, 0, 0);
        x.row();
        due("12 of the latest", x.burnt(), 0);
    }

    private static int rowOf(int... bytes) {
        DishLines x = new DishLines();
        Check.bytes(x, bytes);
        int came = x.row();
        if (came + x.burnt() != 1) {
            return -9;
        }
        return came == 0 ? -1 : x.at(0, 2);
    }

    /** Digits of DISHES (1 .. 6), 0 between them; one with another byte, of more than 5 is BURNT. */
    private static void rowOfOne() {
        for (int digit = 1; digit <= 6; digit++) {
            due("11 " + digit, rowOf(digit), digit);
            due("11 0 around", rowOf(0, 0, digit, 0, 0), digit);
        }
        for (int digit : new int[] {7, 8, 9, 10, 32, 48, 49, 54, 127, 128, 129, 134, 249, 255}) {
            due("12 " + digit, rowOf(digit), -1);
            due("12 ahead " + digit, rowOf(digit, 1), -1);
            due("12 behind " + digit, rowOf(1, 2, digit), -1);
            due("12 in the midst " + digit, rowOf(1, digit, 2), -1);
        }
        due("11 five", rowOf(6, 6, 6, 6, 6), 66666);
        due("11 five, 0 behind", rowOf(1, 2, 3, 4, 5, 0), 12345);
        due("12 six", rowOf(6, 6, 6, 6, 6, 6), -1);
        due("12 six, 0 behind", rowOf(1, 2, 3, 4, 5, 6, 0), -1);
        due("12 nine of which the last five can be", rowOf(9, 1, 1, 1, 1, 1), -1);
        int[] most = new int[400];
        for (int i = 0; i < 400; i++) {
            most[i] = 1;
        }
        due("12 four hundred", rowOf(most), -1);
        most[394] = 0;
        DishLines x = new DishLines();
        Check.bytes(x, most);
        due("11 the last five of four hundred", x.row(), 1);
        due("12 the first of four hundred", x.burnt(), 1);
        due("11 they are", x.at(0, 2), 11111);
    }

    /** BURNT: 0 ahead of any row() that was not REFUSED, then of the latest. */
    private static void burnt() {
        DishLines x = new DishLines();
        due("12 ahead of any", x.burnt(), 0);
        x.row();
        due("12 ahead of any that was not refused", x.burnt(), 0);
        Check.bytes(x, 7, 0, 8, 0, 1);
        x.row();
        due("12 two", x.burnt(), 2);
        x.row();
        due("12 two still", x.burnt(), 2);
        x.undo();
        x.image(0);
        x.back(0);
        due("12 two all along", x.burnt(), 2);
        Check.bytes(x, 1);
        x.row();
        due("12 none", x.burnt(), 0);
    }

    private static void rowWithoutRoom() {
        int[] most = new int[400];
        for (int i = 0; i < 400; i += 2) {
            most[i] = i / 2 % 6 + 1;
        }
        DishLines x = new DishLines();
        x.terms(0, 999);
        Check.bytes(x, most);
        due("11 twelve of two hundred", x.row(), 12);
        due("12 all but twelve", x.burnt(), 188);
        for (int i = 0; i < 12; i++) {
            due("11 in their order", x.at(i, 2), i % 6 + 1);
            due("11 year", x.at(i, 1), 999);
            due("11 mother", x.at(i, 0), -1);
        }
        x.undo();
        Check.bytes(x, 7, 0, 1, 1, 1, 1, 1, 1, 0, 2, 0, 3, 0, 9);
        due("11 the one that has room", x.row(), 1);
        due("12 all others, once each", x.burnt(), 4);
        due("11 it is", x.at(11, 2), 2);
    }

    private static int drawnOf(int seed, int n) {
        DishLines x = new DishLines();
        x.house(-1, 0, 0);
        return x.line(seed, 0, n);
    }

    /** The SEED (0 .. 1,000,000). */
    private static void seeds() {
        DishLines x = new DishLines();
        x.house(-1, 0, 0);
        x.line(5, 0, 3);
        Check.refused("32 seed -1", x, -1, y -> y.line(-1, 0, 1));
        Check.refused("32 seed 1000001", x, -1, y -> y.line(1000001, 0, 1));
        for (int far : Check.FAR) {
            Check.refused("32 seed " + far, x, -1, y -> y.line(far, 0, 1));
        }
        // 0: s is 12345; 1000000: it is 1103012345 modulo 1000003, 9036
        due("32 seed 0", drawnOf(0, 1), 12345 % 6 + 1);
        due("32 seed 1000000", drawnOf(1000000, 1), 9036 % 6 + 1);
        due("32 seed 1", drawnOf(1, 1), 13448 % 6 + 1);
        due("32 seed 999999", drawnOf(999999, 1), 7933 % 6 + 1);
    }

    /** s becomes (s times 1103 and 12345) modulo 1,000,003, it is s modulo m. */
    private static void draws() {
        // 895: 999530, just below; 896: 1000633, just above: 630
        due("32 just below the modulus", drawnOf(895, 1), 999530 % 6 + 1);
        due("32 just above the modulus", drawnOf(896, 1), 630 % 6 + 1);
        due("32 s is 0", drawnOf(870345, 1), 1);
        due("32 s is 1000002", drawnOf(327279, 1), 1);
        DishLines x = new DishLines();
        x.house(-1, 0, 0);
        // 12 of one PINCH: OUT, IN 0 .. 5 ahead, IN 0 .. 5 behind, DOUBLE
        x.line(870345, 0, 2);
        due("32 behind s 0: 12345", x.drawn(2), 15);
        x.line(327279, 0, 2);
        // 11242 modulo 14 is 0: OUT
        due("32 behind s 1000002: 11242", x.drawn(2), 0);
        due("33 the first of them", x.drawn(1), 1);
        Check.rule(x, "weighs 0;weighs 1 if sort = 1 and thing = 3 and place = 0");
        for (int seed : new int[] {0, 1, 895, 870345, 1000000}) {
            due("32 modulo 1", x.line(seed, 0, 5), 44444);
        }
        Check.rule(x, "weighs 99");
        // 6 times 99: 12345 % 594 is 465, the fifth of 99 each
        due("32 modulo 594", x.line(0, 0, 1), 5);
        Check.rule(x, "weighs 0;weighs 465 % 100 if thing = 0;weighs 99 if thing = 5");
        // 65 of THING 0 and 99 of THING 5: 12345 % 164 is 45
        due("32 the first by weight", x.line(0, 0, 1), 1);
        Check.rule(x, "weighs 0;weighs 45 if thing = 2;weighs 20 if thing = 4");
        // 12345 % 65 is 60, behind the 45
        due("32 the second by weight", x.line(0, 0, 1), 5);
        Check.rule(x, "weighs 0;weighs 46 if thing = 2;weighs 15 if thing = 4");
        // 12345 % 61 is 23
        due("32 the first again", x.line(0, 0, 1), 3);
        Check.law(x, "weighs 0;weighs 30 if thing = 2;weighs 35 if thing = 4");
        x.force(5);
        // 12345 % 65 is 60
        due("32 the last", x.line(0, 0, 1), 5);
        boundaryOfDraws();
    }

    /** A DRAW that falls on the first one behind an end of WEIGHTS, and on the last ahead of it. */
    private static void boundaryOfDraws() {
        for (int ahead : new int[] {44, 45, 46}) {
            DishLines x = new DishLines();
            x.house(-1, 0, 0);
            // together 100: 12345 % 100 is 45
            StringBuilder law = new StringBuilder("weighs 0;weighs ").append(ahead).append(" if thing = 1;weighs ");
            Check.rule(x, law.append(100 - ahead).append(" if thing = 3").toString());
            due("32 draw 45, " + ahead + " ahead", x.line(0, 0, 1), ahead > 45 ? 2 : 4);
        }
    }

    /** n CHANGES 1 .. 60. */
    private static void lengthOfLines() {
        DishLines x = new DishLines();
        x.house(-1, 0, 3);
        x.line(9, 0, 2);
        Check.refused("32 n 0", x, -1, y -> y.line(0, 0, 0));
        Check.refused("32 n -1", x, -1, y -> y.line(0, 0, -1));
        Check.refused("32 n 61", x, -1, y -> y.line(0, 0, 61));
        for (int far : Check.FAR) {
            Check.refused("32 n " + far, x, -1, y -> y.line(0, 0, far));
            Check.refused("32 house " + far, x, -2, y -> y.line(0, far, 1));
            Check.none("33 " + far, x, y -> y.drawn(far));
        }
        Check.refused("32 house -1", x, -2, y -> y.line(0, -1, 1));
        Check.refused("32 house 1", x, -2, y -> y.line(0, 1, 1));
        Check.refused("32 house 12", x, -2, y -> y.line(0, 12, 1));
        Check.none("33 -1", x, y -> y.drawn(-1));
        Check.none("33 3", x, y -> y.drawn(3));
        int end = x.line(9, 0, 60);
        due("33 60", x.drawn(60), end);
        Check.none("33 61", x, y -> y.drawn(61));
        int[] all = new int[61];
        for (int i = 0; i <= 60; i++) {
            all[i] = x.drawn(i);
        }
        for (int n = 1; n <= 60; n++) {
            due("32 n " + n, x.line(9, 0, n), all[n]);
            due("33 n " + n, x.drawn(n), all[n]);
            due("33 behind n " + n, x.drawn(n + 1), -1);
        }
    }

    /** The first in the YEAR of TERMS, each in the YEAR behind that of the one ahead, 999 at most. */
    private static void yearsOfLines() {
        String law = "weighs 0;weighs 1 if sort = 1 and place = 0 and thing = year - 995;"
            + "weighs 1 if year = 0 and sort = 1 and thing = 5";
        int[][] want = {{995, 5, 54321}, {996, 5, 55432}, {997, 5, 55543}, {998, 5, 55554}, {999, 5, 55555}, {999, 1, 5},
            {998, 2, 54}, {998, 3, 554}, {994, 1, 0}, {994, 2, 1}, {995, 3, 321}, {0, 1, 6}, {0, 2, 6}};
        for (int[] one : want) {
            DishLines x = new DishLines();
            x.house(-1, 0, 0);
            x.terms(0, one[0]);
            Check.rule(x, law);
            due("32 from " + one[0] + ", " + one[1], x.line(0, 0, one[1]), one[2]);
            due("32 from " + one[0] + ": year stays", x.count(9), one[0]);
        }
        DishLines x = new DishLines();
        x.house(-1, 999, 0);
        Check.rule(x, "bars if not year = 3");
        due("32 not in the HOUSE's YEAR, which is of no account", x.line(0, 0, 60), 12345 % 6 + 1);
        due("33 barred till then", x.drawn(3), 0);
    }

    /** A LINE is kept as the latest: neither refused ones nor what becomes of HOUSES change it. */
    private static void latestLine() {
        DishLines x = new DishLines();
        x.house(-1, 0, 5);
        int end = x.line(77, 0, 2);
        x.undo();
        Check.refused("32 the house has gone", x, -2, y -> y.line(77, 0, 2));
        due("33 at first", x.drawn(0), 5);
        due("33 in the end", x.drawn(2), end);
        due("33 no more", x.drawn(3), -1);
        x.house(-1, 0, 6);
        x.line(77, 0, 1);
        due("33 the new one", x.drawn(0), 6);
        due("33 nothing left of the old one", x.drawn(2), -1);
    }

    /** IMAGES 0, 1. */
    private static void twoImages() {
        DishLines x = new DishLines();
        Check.refused("34 -1", x, -1, y -> y.image(-1));
        Check.refused("34 2", x, -1, y -> y.image(2));
        Check.refused("35 -1", x, -1, y -> y.back(-1));
        Check.refused("35 2", x, -1, y -> y.back(2));
        Check.refused("35 0 was not kept", x, -2, y -> y.back(0));
        Check.refused("35 1 was not kept", x, -2, y -> y.back(1));
        for (int far : Check.FAR) {
            Check.refused("34 " + far, x, -1, y -> y.image(far));
            Check.refused("35 " + far, x, -1, y -> y.back(far));
        }
        due("34 0", x.image(0), 0);
        Check.refused("35 1 still not kept", x, -2, y -> y.back(1));
        due("35 0", x.back(0), 0);
        x.house(-1, 0, 1);
        due("34 1", x.image(1), 0);
        due("35 back to 0", x.back(0), 0);
        due("35 back to none", x.count(0), 0);
        due("35 back to 1", x.back(1), 0);
        due("35 back to one", x.count(0), 1);
    }

    private static void imagesOfExtremes() {
        DishLines x = new DishLines();
        x.image(0);
        String atFirst = Check.kept(x);
        for (int i = 0; i < 12; i++) {
            x.house(i - 1, 999, 66666);
        }
        for (int i = 0; i < 6; i++) {
            Check.law(x, "weighs 9" + (char) ('0' + i));
            x.put(i, 0, 9);
            x.put(i, 1, 0);
            x.put(i, 2, (i + 1) % 6);
        }
        x.force(5);
        x.terms(0, 999);
        x.terms(1, 9);
        x.image(1);
        String full = Check.kept(x);
        Check.text(x, "abc");
        x.back(0);
        Check.holds("35 as at first", Check.kept(x).equals(atFirst));
        due("35 the tape stays", x.count(2), 3);
        x.end(0);
        due("35 room again", x.house(-1, 0, 1), 0);
        due("35 room for a law again", Check.law(x, "bars"), 0);
        due("35 the laws have gone", x.force(1), -2);
        x.back(1);
        Check.holds("35 full again", Check.kept(x).equals(full));
        due("35 what the LAW weighs", x.change(1, 0, 0, 0, 1), 95);
        due("35 no room", x.house(-1, 0, 1), -5);
        due("35 no room for a law", Check.law(x, "bars"), -5);
        x.back(0);
        Check.holds("35 as at first again", Check.kept(x).equals(atFirst));
        x.back(1);
        x.undo();
        x.put(0, 0, 1);
        x.image(1);
        x.back(0);
        x.back(1);
        due("34 the latest of 1: houses", x.count(0), 11);
        due("34 the latest of 1: sweet", x.of(0, 0), 1);
    }

    /** What came into the place of what was kept: all of it is as it was then, MOTHERS, PINCHES and LAWS, too. */
    private static void imagesAreNotMixed() {
        DishLines x = new DishLines();
        x.house(-1, 0, 1);
        x.house(0, 0, 11);
        x.house(1, 0, 12);
        Check.rule(x, "weighs 7");
        x.image(0);
        x.undo();
        x.undo();
        x.house(-1, 5, 66);
        x.house(0, 9, 6);
        x.image(1);
        for (int round = 0; round < 2; round++) {
            x.back(0);
            due("35 mother of 1", x.at(1, 0), 0);
            due("35 mother of 2", x.at(2, 0), 1);
            due("35 daughters of 0", x.at(0, 3), 1);
            due("35 year of 2", x.at(2, 1), 0);
            due("35 dish of 2", x.at(2, 2), 12);
            due("35 poor", x.poor(-1), 0);
            due("35 copies", x.copies(1), 4);
            due("35 tastings", x.tastings(6, 3), 2);
            due("35 weighs", x.change(1, 0, 0, 0, 1), 7);
            due("35 has", Check.orders(x, "year 100*has 1 0+10*has 2 1+has 2 5"), 1);
            due("35 has: year", x.count(9), 210);
            x.back(1);
            due("35 mother of 1, the other", x.at(1, 0), -1);
            due("35 mother of 2, the other", x.at(2, 0), 0);
            due("35 year of 2, the other", x.at(2, 1), 9);
            due("35 dish of 2, the other", x.at(2, 2), 6);
            due("35 poor, the other", x.poor(-1), 2);
            due("35 copies, the other", x.copies(0), 7);
            due("35 tastings, the other", x.tastings(7, 3), 3);
        }
        DishLines z = new DishLines();
        z.image(0);
        Check.rule(z, "weighs 8");
        z.image(1);
        z.back(0);
        Check.rule(z, "weighs 9");
        due("35 another LAW 0", z.change(1, 0, 0, 0, 1), 9);
        z.back(1);
        due("35 the LAW 0 of then", z.change(1, 0, 0, 0, 1), 8);
    }

    private static void imagesKeepNoCounts() {
        DishLines x = new DishLines();
        x.image(0);
        x.put(9, 9, 9);
        x.house(5, 0, 0);
        x.undo();
        x.row();
        x.back(0);
        due("35 status is back's", x.status(), 0);
        due("36 -1", x.count(3), 1);
        due("36 -2", x.count(4), 1);
        due("36 -3", x.count(5), 1);
        due("36 -6", x.count(7), 1);
        Check.law(x, "bars if (");
        Check.orders(x, "year 5; year 0-1");
        x.back(0);
        due("35 fault stays that of the latest TEXT", x.fault(), -1);
        due("35 where it stopped stays", x.stopped(), 1);
    }

    /** NONE for others. */
    private static void counts() {
        DishLines x = new DishLines();
        for (int what : new int[] {-1, -2, 11, 12}) {
            Check.none("36 what " + what, x, y -> y.count(what));
        }
        for (int far : Check.FAR) {
            Check.none("36 what " + far, x, y -> y.count(far));
        }
        int[] want = {0, 0, 0, 0, 0, 0, 0, 0, -1, 0, 0};
        for (int what = 0; what <= 10; what++) {
            due("36 what " + what, x.count(what), want[what]);
        }
        DishLines z = Check.full(0);
        for (int i = 0; i < 6; i++) {
            Check.law(z, "bars");
        }
        z.force(5);
        z.terms(0, 999);
        z.terms(1, 9);
        for (int i = 0; i < 20; i++) {
            z.feed(0, 0, 0, 0, 0);
        }
        int[] most = {12, 6, 400, 0, 0, 0, 0, 0, 5, 999, 9};
        for (int what = 0; what <= 10; what++) {
            due("36 most, what " + what, z.count(what), most[what]);
        }
    }

    private static int asked(DishLines x) {
        x.of(9, 9);
        x.at(99, 0);
        x.feed(0, 0, 0, 0, 0);
        x.end(0);
        x.end(-1);
        x.burnt();
        x.fault();
        x.stopped();
        x.change(7, 0, 0, 0, 0);
        x.changes(7, 0);
        x.steps(7, 7);
        x.way(7, 7, 0);
        x.between(99, 0);
        x.judge(9);
        x.poor(99);
        x.first(-1, 0);
        x.lines(-1, 0);
        x.odds(7, 7, 7);
        x.likely(7, 7);
        x.tastings(-1, 0);
        x.copies(7);
        x.stood(7);
        x.drawn(99);
        x.count(99);
        return x.status();
    }

    /** What the latest call of twelve was REFUSED by: none of the others changes it. */
    private static void statusOfTwelve() {
        Check.Call[] good = {x -> x.put(0, 0, 0), x -> x.house(-1, 0, 12), x -> x.born(0, 0, 0, 0), x -> x.undo(),
            x -> x.terms(0, 0), x -> {
                Check.bytes(x, 1);
                return x.row();
            }, x -> Check.law(x, "bars if 1 = 2"), x -> Check.orders(x, "year 0"), x -> x.force(-1), x -> x.line(0, 0, 1),
            x -> x.image(0), x -> x.back(0)};
        Check.Call[] bad = {x -> x.put(0, 0, 10), x -> x.house(44, 0, 12), x -> x.born(0, 0, 5, 0), x -> x.terms(2, 0),
            x -> x.row(), x -> x.law(), x -> x.orders(), x -> x.force(6), x -> x.line(0, 0, 61), x -> x.image(2),
            x -> x.back(2)};
        int[] by = {-1, -2, -3, -1, -6, -6, -6, -2, -1, -1, -1};
        for (Check.Call one : good) {
            DishLines x = new DishLines();
            x.house(-1, 0, 12);
            x.image(0);
            x.put(9, 9, 9);
            due("37 refused", asked(x), -1);
            one.on(x);
            due("37 not refused", asked(x), 0);
        }
        for (int i = 0; i < bad.length; i++) {
            DishLines x = new DishLines();
            x.house(-1, 0, 12);
            bad[i].on(x);
            due("37 refused by", asked(x), by[i]);
        }
        DishLines x = new DishLines();
        due("37 ahead of any", asked(x), 0);
        x.undo();
        due("37 undo refused", asked(x), -3);
        due("37 no room", asked(roomless()), -5);
    }

    private static DishLines roomless() {
        DishLines x = Check.full(0);
        x.house(-1, 0, 0);
        return x;
    }

    /** An object is used for at most 512 calls: the last of them is answered like the first. */
    private static void manyCalls() {
        DishLines x = new DishLines();
        x.house(-1, 0, 12);
        for (int i = 0; i < 510; i++) {
            due("mood of the " + i + "-th call", x.terms(1, (i + 1) % 10), i % 10);
        }
        due("the last call", x.steps(12, 21), 1);
    }
}
