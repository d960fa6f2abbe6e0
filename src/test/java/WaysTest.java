import java.util.Random;

/** Promises 7, 20, 21, 22 and 25 under LAWS that ask for each of their words: each is held against the Model. */
public final class WaysTest {
    private static final String[] LAWS = {
        "bars if sort = 0 and long = 3", "bars if sort = 0 and has > 1", "bars if sort = 0 and has = 1 and long < 4",
        "bars if sort = 0 and place > 0", "bars if sort = 0 and thing = 1", "bars if sort = 1", "bars if sort = 1 and long = 2",
        "bars if sort = 1 and long > 2 and place < 2", "bars if sort = 1 and has = 0 and long > 0", "bars if sort = 1 and has > 0",
        "bars if sort = 1 and not thing = 2", "bars if sort < 2 and not place = long - 1", "bars if sort = 2",
        "bars if sort = 2 and place = 1", "bars if sort = 2 and thing > 1", "bars if sort = 2 and has = 1",
        "bars if sort = 3 and long = 4", "bars if sort = 3 and has = 2", "bars if sort = 1 and long < 4",
        "bars if sort = 1;bars if sort = 3 and has > 1", "bars if sort = 1;bars if sort = 3 and place = 0",
        "bars if sort = 1;bars if sort = 3 and long = 2", "bars if sort = 4", "bars if sort = 4 and has > 1",
        "bars if sort = 4 and thing = 0", "bars if sort = 4 and long < 3", "bars if sort = 4 and place = 2;bars if sort = 2",
        "bars if sweet > 3 and sort = 1", "bars if year % 2 = 1 and sort = 0", "bars if mood = 3 and has > 0 and sort = 2",
        "bars if sort = 1 and sweet > 3;bars if sort = 0 and sweet < 4;bars if sort = 2 and place > 1",
        "bars if sort = 0;bars if sort = 1 and long > 3", "bars if long = 5 and not sort = 4;weighs 0"};
    private static final int[] DISHES = {0, 1, 11, 12, 2, 21, 3, 6, 112, 121, 123, 321, 333, 1122, 1212, 1234, 4444, 11222,
        12312, 12345, 55555};

    public static void main(String[] args) {
        Random random = new Random(5);
        for (String law : LAWS) {
            DishLines x = new DishLines();
            Model y = new Model();
            prepare(x, y, random);
            Check.rule(x, law);
            for (char sign : law.toCharArray()) {
                y.append(sign);
            }
            y.force(y.law());
            compare(law, x, y, random);
        }
        Check.end();
    }

    private static void prepare(DishLines x, Model y, Random random) {
        int[] sweet = {5, 1, 9, 0, 4, 3};
        int[] stand = {1, 2, 3, -1, 0, 0};
        for (int thing = 0; thing < 6; thing++) {
            x.put(thing, 0, sweet[thing]);
            y.put(thing, 0, sweet[thing]);
            x.put(thing, 2, stand[thing]);
            y.put(thing, 2, stand[thing]);
        }
        int gone = random.nextInt(12);
        x.put(gone, 1, 0);
        y.put(gone, 1, 0);
        x.terms(0, 7);
        y.terms(0, 7);
        x.terms(1, 3);
        y.terms(1, 3);
        for (int i = 0; i < 12; i++) {
            int dish = DISHES[random.nextInt(DISHES.length)];
            int mother = random.nextInt(3) == 0 ? -1 : i - 1;
            x.house(mother, i, dish);
            y.house(mother, i, dish);
        }
    }

    private static void compare(String law, DishLines x, Model y, Random random) {
        for (int i = 0; i < 40; i++) {
            int from = DISHES[random.nextInt(DISHES.length)];
            int to = DISHES[random.nextInt(DISHES.length)];
            Check.due(law + ": steps(" + from + ", " + to + ")", x.steps(from, to), y.steps(from, to));
        }
        for (int i = 0; i < 2; i++) {
            int from = DISHES[random.nextInt(DISHES.length)];
            int to = DISHES[random.nextInt(DISHES.length)];
            for (int at = 0; at < 3; at++) {
                Check.due(law + ": way(" + from + ", " + to + ", " + at + ")", x.way(from, to, at), y.way(from, to, at));
            }
        }
        for (int i = 0; i < 12; i++) {
            Check.due(law + ": between(" + i + ", -1)", x.between(i, -1), y.between(i, -1));
            Check.due(law + ": between(" + i + ", 0)", x.between(i, 0), y.between(i, 0));
        }
        int bits = 1 + random.nextInt(4095);
        for (int what = 0; what < 3; what++) {
            Check.due(law + ": first(" + bits + ", " + what + ")", x.first(bits, what), y.first(bits, what));
            Check.due(law + ": first(7, " + what + ")", x.first(7, what), y.first(7, what));
        }
        int house = random.nextInt(12);
        Check.due(law + ": at(" + house + ", 4)", x.at(house, 4), y.at(house, 4));
    }
}
