/**
 * Every call with every row of numbers just within, just beyond and far beyond what it takes, in a new valley, in one
 * half full under a LAW and in a full one: each answer, and what stands behind it, is held against the Model's.
 */
public final class ExtremesTest {
    private static final int MIN = Integer.MIN_VALUE;
    private static final int MAX = Integer.MAX_VALUE;
    private static final int[] NUMBERS = {MIN, MIN + 1, -1000, -7, -6, -3, -2, -1, 0, 1, 2, 3, 4, 5, 6, 7, 8, 9, 10, 11, 12, 13,
        20, 31, 32, 45, 59, 60, 61, 63, 64, 99, 100, 127, 255, 256, 400, 401, 512, 998, 999, 1000, 2047, 4095, 4096, 66666,
        66667, 999999, 1000000, 1000001, 16777216, MAX - 1, MAX};
    private static final int[] FEW = {MIN, -2, -1, 0, 1, 2, 5, 6, 9, 10, MAX};
    private static final int[] HOUSES = {MIN, -2, -1, 0, 1, 4, 5, 6, 11, 12, MAX};
    private static final int[] YEARS = {MIN, -1, 0, 9, 10, 11, 998, 999, 1000, MAX};
    private static final int[] DISHES = {MIN, -11, -1, 0, 1, 6, 7, 10, 12, 16, 17, 61, 100, 1234, 12345, 66666, 66667, 100000,
        111111, MAX};
    private static final int[] SORTS = {MIN, -1, 0, 1, 2, 3, 4, 5, MAX};
    private static final int[] PLACES = {MIN, -1, 0, 1, 2, 4, 5, 6, MAX};
    private static final int[] THINGS = {MIN, -1, 0, 2, 5, 6, MAX};
    private static final int[] WHATS = {MIN, -1, 0, 1, 2, 3, 4, 7, 8, MAX};

    private final int stage;
    private DishLines x;
    private Model y;

    private ExtremesTest(int stage) {
        this.stage = stage;
        anew();
    }

    public static void main(String[] args) {
        for (int stage = 0; stage < 3; stage++) {
            ExtremesTest test = new ExtremesTest(stage);
            test.light();
            test.changes();
            test.ways();
            test.chances();
            test.told();
            test.puts();
            test.houses();
            test.births();
            test.lines();
            test.single();
            test.tape();
        }
        Check.end();
    }

    private void due(String call, long got, long want) {
        Check.due("stage " + stage + ": " + call, got, want);
    }

    private void text(String text) {
        Check.text(x, text);
        for (char sign : text.toCharArray()) {
            y.append(sign);
        }
    }

    private void law(String law) {
        text(law);
        due("law", x.law(), y.law());
    }

    private void put(int thing, int what, int value) {
        due("put", x.put(thing, what, value), y.put(thing, what, value));
    }

    private void house(int mother, int year, int dish) {
        due("house", x.house(mother, year, dish), y.house(mother, year, dish));
    }

    private void anew() {
        x = new DishLines();
        y = new Model();
        if (stage == 0) {
            return;
        }
        put(0, 0, 9);
        put(5, 1, 0);
        put(0, 2, 5);
        law("weighs sort + place if not thing = 5; bars if sort = 2 and year = 999");
        x.force(0);
        y.force(0);
        int[] dishes = {12, 0, 12345, 66666, 1, 12, 61, 16, 1234, 12, 2, 11111};
        for (int i = 0; i < (stage == 1 ? 5 : 12); i++) {
            house(i % 3 == 0 ? -1 : i - 1, i / 3 % 2 == 0 ? 10 : 999, dishes[i]);
        }
        x.line(3, 0, 9);
        y.line(3, 0, 9);
        x.terms(0, stage == 1 ? 10 : 999);
        y.terms(0, stage == 1 ? 10 : 999);
        x.image(stage - 1);
        y.image(stage - 1);
        if (stage == 2) {
            for (int i = 1; i < 6; i++) {
                law("bars");
            }
            text(Check.repeated("year 1000", " ", 391));
        }
    }

    private void sameState(String call) {
        due(call + ": status", x.status(), y.status());
        for (int what = 0; what <= 10; what++) {
            due(call + ": count " + what, x.count(what), y.count(what));
        }
        for (int thing = 0; thing < 6; thing++) {
            for (int what = 0; what < 3; what++) {
                due(call + ": of", x.of(thing, what), y.of(thing, what));
            }
        }
        for (int house = 0; house < 12; house++) {
            for (int what = 0; what < 4; what++) {
                due(call + ": at", x.at(house, what), y.at(house, what));
            }
        }
        due(call + ": fault", x.fault(), y.fault());
        due(call + ": stopped", x.stopped(), y.stopped());
        due(call + ": burnt", x.burnt(), y.burnt());
        due(call + ": drawn", x.drawn(1), y.drawn(1));
    }

    private void light() {
        for (int a : NUMBERS) {
            due("judge " + a, x.judge(a), y.judge(a));
            due("poor " + a, x.poor(a), y.poor(a));
            due("drawn " + a, x.drawn(a), y.drawn(a));
            due("count " + a, x.count(a), y.count(a));
            due("copies " + a, x.copies(a), y.copies(a));
            due("stood " + a, x.stood(a), y.stood(a));
            for (int b : NUMBERS) {
                due("of " + a + " " + b, x.of(a, b), y.of(a, b));
                due("changes " + a + " " + b, x.changes(a, b), y.changes(a, b));
                due("between " + a + " " + b, x.between(a, b), y.between(a, b));
                due("tastings " + a + " " + b, x.tastings(a, b), y.tastings(a, b));
                if (b != 4) {
                    due("at " + a + " " + b, x.at(a, b), y.at(a, b));
                }
            }
            due("at " + a + " 4", x.at(a, 4), y.at(a, 4));
        }
        for (int dish : DISHES) {
            due("copies " + dish, x.copies(dish), y.copies(dish));
            due("stood " + dish, x.stood(dish), y.stood(dish));
            for (int i : NUMBERS) {
                due("changes " + dish + " " + i, x.changes(dish, i), y.changes(dish, i));
            }
        }
        sameState("questions");
    }

    private void changes() {
        for (int dish : DISHES) {
            for (int sort : SORTS) {
                for (int place : PLACES) {
                    for (int thing : THINGS) {
                        for (int what : new int[] {MIN, -1, 0, 1, 2, MAX}) {
                            due("change " + dish + " " + sort + " " + place + " " + thing + " " + what,
                                x.change(dish, sort, place, thing, what), y.change(dish, sort, place, thing, what));
                        }
                    }
                }
            }
        }
        sameState("change");
    }

    private void ways() {
        for (int from : DISHES) {
            for (int to : DISHES) {
                due("steps " + from + " " + to, x.steps(from, to), y.steps(from, to));
            }
        }
        for (int from : new int[] {MIN, -1, 0, 7, 12, 17, 111111, MAX}) {
            for (int to : new int[] {MIN, -1, 0, 1, 12, 66667, MAX}) {
                for (int i : WHATS) {
                    due("way " + from + " " + to + " " + i, x.way(from, to, i), y.way(from, to, i));
                }
            }
        }
        sameState("ways");
    }

    private void chances() {
        for (int dish : DISHES) {
            for (int n : new int[] {MIN, -1, 0, 1, 2, 4, MAX}) {
                due("likely " + dish + " " + n, x.likely(dish, n), y.likely(dish, n));
                for (int to : DISHES) {
                    due("odds " + dish + " " + to + " " + n, x.odds(dish, to, n), y.odds(dish, to, n));
                }
            }
        }
        due("likely 12 3", x.likely(12, 3), y.likely(12, 3));
        sameState("chances");
    }

    private void told() {
        for (int bits : new int[] {MIN, MIN + 1, -4096, -2, -1, 0, 1, 2, 3, 16, 31, 32, 33, 63, 2048, 4095, 4096, 8191, MAX}) {
            for (int what : WHATS) {
                due("first " + bits + " " + what, x.first(bits, what), y.first(bits, what));
            }
        }
        for (int bits : NUMBERS) {
            for (int what : new int[] {MIN, -1, 0, 1, 2, 3, 7, 8, 9, MAX}) {
                due("lines " + bits + " " + what, x.lines(bits, what), y.lines(bits, what));
            }
        }
        sameState("told");
    }

    private void puts() {
        for (int thing : THINGS) {
            for (int what : new int[] {MIN, -1, 0, 1, 2, 3, MAX}) {
                for (int value : FEW) {
                    anew();
                    String call = "put " + thing + " " + what + " " + value;
                    due(call, x.put(thing, what, value), y.put(thing, what, value));
                    sameState(call);
                }
            }
        }
    }

    private void houses() {
        for (int mother : HOUSES) {
            for (int year : YEARS) {
                for (int dish : DISHES) {
                    anew();
                    String call = "house " + mother + " " + year + " " + dish;
                    due(call, x.house(mother, year, dish), y.house(mother, year, dish));
                    sameState(call);
                }
            }
        }
    }

    private void births() {
        for (int mother : HOUSES) {
            for (int sort : SORTS) {
                for (int place : PLACES) {
                    for (int thing : THINGS) {
                        anew();
                        String call = "born " + mother + " " + sort + " " + place + " " + thing;
                        due(call, x.born(mother, sort, place, thing), y.born(mother, sort, place, thing));
                        due(call + ": status", x.status(), y.status());
                        due(call + ": houses", x.count(0), y.count(0));
                        due(call + ": dish", x.at(x.count(0) - 1, 2), y.at(y.count(0) - 1, 2));
                    }
                }
            }
        }
    }

    private void lines() {
        for (int seed : new int[] {MIN, -1, 0, 895, 896, 870345, 1000000, 1000001, MAX}) {
            for (int house : HOUSES) {
                for (int n : new int[] {MIN, -1, 0, 1, 2, 59, 60, 61, MAX}) {
                    anew();
                    String call = "line " + seed + " " + house + " " + n;
                    due(call, x.line(seed, house, n), y.line(seed, house, n));
                    sameState(call);
                    for (int i : NUMBERS) {
                        due(call + ": drawn " + i, x.drawn(i), y.drawn(i));
                    }
                }
            }
        }
    }

    private void single() {
        for (int a : NUMBERS) {
            anew();
            due("force " + a, x.force(a), y.force(a));
            sameState("force " + a);
            due("image " + a, x.image(a), y.image(a));
            sameState("image " + a);
            due("back " + a, x.back(a), y.back(a));
            sameState("back " + a);
            for (int b : NUMBERS) {
                due("terms " + a + " " + b, x.terms(a, b), y.terms(a, b));
            }
            sameState("terms " + a);
        }
        anew();
        for (int i = 0; i < 14; i++) {
            due("undo", x.undo(), y.undo());
            sameState("undo");
        }
    }

    private void tape() {
        for (int n : NUMBERS) {
            anew();
            int[] five = {n, -n, n * 3, ~n, n >>> 1};
            due("feed " + n, x.feed(five[0], five[1], five[2], five[3], five[4]), y.feed(five));
            due("end " + n, x.end(n), y.end(n));
            sameState("end " + n);
            due("orders " + n, x.orders(), y.orders());
            sameState("orders " + n);
            due("row " + n, x.row(), y.row());
            sameState("row " + n);
            due("feed again " + n, x.feed(five[0], five[1], five[2], five[3], five[4]), y.feed(five));
            due("row again " + n, x.row(), y.row());
            sameState("row again " + n);
            due("law " + n, x.law(), y.law());
            sameState("law " + n);
        }
    }
}
