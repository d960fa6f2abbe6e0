import java.util.Arrays;

/**
 * A valley's dishes that go down from mother to daughter, each with one thing changed.
 *
 * <p>Inside, a DISH is held by its rank among all DISHES by their NUMBERS: a rank serves as an index, and the
 * lowest rank is the lowest NUMBER.
 */
public final class DishLines {
    public static final int NONE = -1;

    private static final int BAD_NUMBER = -1;
    private static final int NOT_THERE = -2;
    private static final int CANNOT = -3;
    private static final int NO_ROOM = -5;
    private static final int BAD_TEXT = -6;

    private static final int THINGS = 6;
    private static final int MOST_PINCHES = 5;
    private static final int DISHES = 9331;
    private static final int MOST_HOUSES = 12;
    private static final int MOST_LAWS = 6;
    private static final int MOST_TOLD = 6;
    private static final int IMAGES = 2;
    private static final int LAST_YEAR = 999;
    private static final int MOST_DRAWS = 60;
    private static final int MOST_CHANCES = 3;
    private static final int NO_MOTHER = 100;

    private static final int OUT = 0;
    private static final int IN = 1;
    private static final int SWAP = 2;
    private static final int DOUBLE = 3;
    private static final int STAND = 4;
    /** What an order's KIND is beside the five sorts of being born. */
    private static final int TURN_YEAR = 5;

    private static final int WEIGHS = 0;

    /** Where the orders' words stand among the values that a Machine reads. */
    private static final int WORD_YEARS = 0;
    private static final int WORD_HOUSES = 1;
    private static final int WORD_DONE = 2;
    private static final int WORD_LAST = 3;
    private static final int WORD_LONG = 4;
    private static final int WORD_HAS = 16;
    private static final int WORDS = 88;

    private static final int[] POWER = {1, 6, 36, 216, 1296, 7776};
    /** The first rank of each LONG, and behind them how many DISHES there are. */
    private static final int[] START = {0, 1, 7, 43, 259, 1555, 9331};

    private final Valley valley = new Valley();
    private final Valley[] images = new Valley[IMAGES];
    private final Reader reader = new Reader();
    private final Machine steward = new Machine();
    private final Scale scale = new Scale(valley);
    private final Cook cook = new Cook(valley, scale);
    private final Paths paths = new Paths(valley, scale);
    private final Pedigree pedigree = new Pedigree();
    private final Chances chances = new Chances(valley, scale, cook);
    private final int[] refusals = new int[5];
    private final int[] drawnRanks = new int[MOST_DRAWS + 1];
    private int drawnSize;
    private int refusedBy;
    private int burntDishes;
    private int faultPlace = NONE;
    private int stoppedClause = NONE;

    public DishLines() {
    }

    public int put(int thing, int what, int value) {
        if (!isThing(thing) || !isValueOf(thing, what, value)) {
            return refuse(BAD_NUMBER);
        }
        int[] row = valley.thingRow(what);
        int before = row[thing];
        row[thing] = value;
        valley.touchRules();
        return accept(before);
    }

    public int of(int thing, int what) {
        if (!isThing(thing) || what < 0 || what > 2) {
            return NONE;
        }
        return valley.thingRow(what)[thing];
    }

    public int house(int mother, int year, int dish) {
        int rank = Plate.rankOf(dish);
        if (!isYear(year) || rank == NONE) {
            return refuse(BAD_NUMBER);
        }
        if (mother != NONE && !valley.hasHouse(mother)) {
            return refuse(NOT_THERE);
        }
        if (mother != NONE && year < valley.since[mother]) {
            return refuse(CANNOT);
        }
        return settle(valley.add(mother, year, rank));
    }

    public int born(int mother, int sort, int place, int thing) {
        return settle(giveBirth(mother, sort, place, thing));
    }

    public int undo() {
        if (valley.houses == 0) {
            return refuse(CANNOT);
        }
        valley.keepHouses(valley.houses - 1);
        return accept(Plate.numberOf(valley.dish[valley.houses]));
    }

    public int at(int house, int what) {
        if (!valley.hasHouse(house)) {
            return NONE;
        }
        int mother = valley.mother[house];
        switch (what) {
            case 0:
                return mother;
            case 1:
                return valley.since[house];
            case 2:
                return Plate.numberOf(valley.dish[house]);
            case 3:
                return valley.daughtersOf(house);
            case 4:
                return !valley.hasHouse(mother)
                    ? NONE : paths.stepsFrom(valley.dish[mother], valley.dish[house], valley.since[house]);
            case 5:
                return valley.changedBack(house);
            default:
                return NONE;
        }
    }

    public int terms(int what, int value) {
        if (what == 0 && isYear(value)) {
            int before = valley.year;
            valley.turnTo(value);
            return accept(before);
        }
        if (what == 1 && value >= 0 && value <= 9) {
            int before = valley.mood;
            valley.mood = value;
            valley.touchRules();
            return accept(before);
        }
        return refuse(BAD_NUMBER);
    }

    public int feed(int a, int b, int c, int d, int e) {
        if (!reader.hasRoomFor(20)) {
            return NONE;
        }
        reader.addFour(a);
        reader.addFour(b);
        reader.addFour(c);
        reader.addFour(d);
        reader.addFour(e);
        return reader.size;
    }

    public int end(int n) {
        if (n < 0 || n > reader.size) {
            return NONE;
        }
        reader.size = n;
        return n;
    }

    public int row() {
        if (reader.size == 0) {
            return refuse(BAD_TEXT);
        }
        int came = 0;
        int lost = 0;
        int start = 0;
        // the end of the TAPE closes a DISH as a 0 does
        for (int i = 0; i <= reader.size; i++) {
            if (reader.byteAt(i) != 0) {
                continue;
            }
            if (i > start) {
                int rank = reader.dishAt(start, i);
                boolean stays = rank != NONE && valley.add(NONE, valley.year, rank) >= 0;
                came += stays ? 1 : 0;
                lost += stays ? 0 : 1;
            }
            start = i + 1;
        }
        reader.size = 0;
        burntDishes = lost;
        return accept(came);
    }

    public int burnt() {
        return burntDishes;
    }

    public int law() {
        if (valley.lawCount >= MOST_LAWS) {
            reader.size = 0;
            return refuse(NO_ROOM);
        }
        boolean good = reader.read(false);
        reader.size = 0;
        faultPlace = reader.fault;
        if (!good) {
            return refuse(BAD_TEXT);
        }
        return accept(valley.addLaw(reader.draft.kept()));
    }

    public int orders() {
        boolean good = reader.read(true);
        reader.size = 0;
        faultPlace = reader.fault;
        stoppedClause = NONE;
        if (!good) {
            return refuse(BAD_TEXT);
        }
        int housesBefore = valley.houses;
        int yearBefore = valley.year;
        tellSteward();
        for (int i = 0; i < reader.draft.size; i++) {
            for (int time = 0; time < reader.draft.told(i, Text.TIMES); time++) {
                int answer = runOnce(reader.draft, i);
                if (answer < 0) {
                    stoppedClause = i;
                    valley.keepHouses(housesBefore);
                    valley.turnTo(yearBefore);
                    return refuse(answer);
                }
            }
        }
        return accept(steward.words[WORD_DONE]);
    }

    public int fault() {
        return faultPlace;
    }

    public int stopped() {
        return stoppedClause;
    }

    public int force(int law) {
        if (law < NONE || law >= valley.lawCount) {
            return refuse(NOT_THERE);
        }
        int before = valley.inForce;
        valley.inForce = law;
        valley.touchRules();
        return accept(before);
    }

    public int change(int dish, int sort, int place, int thing, int what) {
        int rank = Plate.rankOf(dish);
        if (rank == NONE || !isChange(sort, place, thing) || what < 0 || what > 1) {
            return NONE;
        }
        scale.open(valley.year);
        cook.take(rank);
        int made = cook.makes(sort, place, thing);
        return what == 0 || made == NONE ? Plate.numberOf(made) : cook.lastWeight;
    }

    public int changes(int dish, int i) {
        int rank = Plate.rankOf(dish);
        if (rank == NONE || i < NONE) {
            return NONE;
        }
        scale.open(valley.year);
        cook.listAll(rank);
        if (i == NONE) {
            return cook.size;
        }
        return i < cook.size ? Plate.numberOf(cook.made[i]) : NONE;
    }

    public int steps(int from, int to) {
        int start = Plate.rankOf(from);
        int goal = Plate.rankOf(to);
        return start == NONE || goal == NONE ? NONE : paths.stepsFrom(start, goal, valley.year);
    }

    public int way(int from, int to, int i) {
        int rank = Plate.rankOf(from);
        int goal = Plate.rankOf(to);
        if (rank == NONE || goal == NONE || i < 0) {
            return NONE;
        }
        int left = paths.stepsFrom(rank, goal, valley.year);
        if (left == NONE || i > left) {
            return NONE;
        }
        Distances table = paths.tableTo(goal, valley.year);
        for (int turn = 0; turn < i; turn++) {
            left--;
            cook.listAll(rank);
            rank = cook.lowestMade(NONE, table, left);
        }
        return Plate.numberOf(rank);
    }

    public int between(int house, int i) {
        if (!valley.hasHouse(house) || !valley.hasHouse(valley.mother[house]) || i < NONE) {
            return NONE;
        }
        Distances table = paths.tableTo(valley.dish[house], valley.since[house]);
        // the goal is the first to be spread, and behind that all from which it is one STEP are known
        table.spread(NONE, 1);
        cook.listAll(valley.dish[valley.mother[house]]);
        int rank = cook.lowestMade(NONE, table, 1);
        int seen = 0;
        for (int turn = 0; turn < cook.size && rank != NONE && seen != i; turn++) {
            seen++;
            rank = cook.lowestMade(rank, table, 1);
        }
        return i == NONE ? seen : Plate.numberOf(rank);
    }

    public int judge(int what) {
        int earliest = NONE;
        int broke = 0;
        for (int i = valley.houses - 1; i >= 0; i--) {
            if (valley.mother[i] != NONE && !keepsCustom(i)) {
                earliest = i;
                broke++;
            }
        }
        if (what == 0) {
            return earliest;
        }
        return what == 1 ? broke : NONE;
    }

    public int poor(int i) {
        int found = 0;
        int year = valley.yearBehind(NONE);
        for (int turn = 0; turn < MOST_HOUSES && year != NONE; turn++) {
            for (int thing = 0; thing < THINGS; thing++) {
                if (!valley.isPoor(year, thing)) {
                    continue;
                }
                if (found == i) {
                    return year * THINGS + thing;
                }
                found++;
            }
            year = valley.yearBehind(year);
        }
        return i == NONE ? found : NONE;
    }

    public int first(int houses, int what) {
        int told = valley.toldOf(houses);
        if (told == 0) {
            return NONE;
        }
        paths.seekFirst(told);
        if (paths.leastSum == NONE) {
            return NONE;
        }
        switch (what) {
            case 0:
                return paths.leastSum;
            case 1:
                return paths.leastCount;
            case 2:
                return Plate.numberOf(paths.leastRank);
            default:
                return NONE;
        }
    }

    public int lines(int houses, int what) {
        int told = valley.toldOf(houses);
        int size = Integer.bitCount(told);
        if (size == 0 || size > MOST_TOLD || what < 0 || what > 1 + size) {
            return NONE;
        }
        if (!pedigree.isOf(told, valley.stamp)) {
            pedigree.take(told, valley.stamp);
            // all STEPS to one goal behind one another, as they come from one table
            for (int i = 0; i < size * size; i++) {
                int from = valley.dish[pedigree.houseAt(i % size)];
                int to = valley.dish[pedigree.houseAt(i / size)];
                pedigree.setSteps(i % size, i / size, paths.stepsFrom(from, to, valley.year));
            }
            pedigree.search();
        }
        if (pedigree.rows == 0) {
            return NONE;
        }
        if (what < 2) {
            return what == 0 ? pedigree.leastSum : pedigree.rows;
        }
        return pedigree.bestMother(what - 2);
    }

    public long odds(int dish, int to, int n) {
        int goal = Plate.rankOf(to);
        if (goal == NONE || !chances.work(Plate.rankOf(dish), n)) {
            return NONE;
        }
        return chances.parts[goal];
    }

    public int likely(int dish, int n) {
        if (!chances.work(Plate.rankOf(dish), n)) {
            return NONE;
        }
        return Plate.numberOf(chances.likeliest());
    }

    public int tastings(int houses, int what) {
        int told = valley.toldOf(houses);
        if (told == 0 || what < 0 || what > 3) {
            return NONE;
        }
        int groups = valley.groupsBy(told, 63);
        int fewest = THINGS + 1;
        int lowest = 0;
        int ways = 0;
        for (int set = 0; set < 64; set++) {
            int size = Integer.bitCount(set);
            if (size > fewest || valley.groupsBy(told, set) != groups) {
                continue;
            }
            lowest = size < fewest ? set : lowest;
            ways = size < fewest ? 1 : ways + 1;
            fewest = size;
        }
        switch (what) {
            case 0:
                return fewest;
            case 1:
                return lowest;
            case 2:
                return ways;
            default:
                return groups;
        }
    }

    public int copies(int dish) {
        int rank = Plate.rankOf(dish);
        if (rank == NONE) {
            return NONE;
        }
        int bits = 0;
        for (int house = 0; house < valley.houses; house++) {
            for (int thing = 0; thing < THINGS; thing++) {
                if (valley.holds(house, thing) > 0 && Plate.leftOut(valley.dish[house], thing) == rank) {
                    bits |= 1 << house;
                }
            }
        }
        return bits;
    }

    public int stood(int dish) {
        int rest = Plate.rankOf(dish) == NONE ? NONE : dish;
        int number = rest == NONE ? NONE : 0;
        int unit = 1;
        for (int i = 0; i < MOST_PINCHES && rest > 0; i++) {
            int thing = valley.gotInstead(rest % 10 - 1);
            if (thing == NONE) {
                return NONE;
            }
            number += (thing + 1) * unit;
            unit *= 10;
            rest /= 10;
        }
        return number;
    }

    public int line(int seed, int house, int n) {
        if (seed < 0 || seed > 1000000 || n < 1 || n > MOST_DRAWS) {
            return refuse(BAD_NUMBER);
        }
        if (!valley.hasHouse(house)) {
            return refuse(NOT_THERE);
        }
        int state = seed;
        int rank = valley.dish[house];
        drawnRanks[0] = rank;
        drawnSize = n + 1;
        for (int i = 1; i <= n; i++) {
            scale.open(Math.min(LAST_YEAR, valley.year + i - 1));
            cook.listAll(rank);
            if (cook.sum > 0) {
                state = (state * 1103 + 12345) % 1000003;
                rank = cook.madeBy(state % cook.sum);
            }
            drawnRanks[i] = rank;
        }
        return accept(Plate.numberOf(rank));
    }

    public int drawn(int i) {
        return i >= 0 && i < drawnSize ? Plate.numberOf(drawnRanks[i]) : NONE;
    }

    public int image(int k) {
        if (k < 0 || k >= IMAGES) {
            return refuse(BAD_NUMBER);
        }
        if (images[k] == null) {
            images[k] = new Valley();
        }
        images[k].takeFrom(valley);
        return accept(0);
    }

    public int back(int k) {
        if (k < 0 || k >= IMAGES) {
            return refuse(BAD_NUMBER);
        }
        if (images[k] == null) {
            return refuse(NOT_THERE);
        }
        valley.takeFrom(images[k]);
        return accept(0);
    }

    public int count(int what) {
        if (what >= 3 && what <= 7) {
            return refusals[what - 3];
        }
        switch (what) {
            case 0:
                return valley.houses;
            case 1:
                return valley.lawCount;
            case 2:
                return reader.size;
            case 8:
                return valley.inForce;
            case 9:
                return valley.year;
            case 10:
                return valley.mood;
            default:
                return NONE;
        }
    }

    public int status() {
        return refusedBy;
    }

    private int accept(int answer) {
        refusedBy = 0;
        return answer;
    }

    private int refuse(int by) {
        refusedBy = by;
        // there is no -4: -5 and -6 are counted next to -3
        refusals[by >= CANNOT ? -by - 1 : -by - 2]++;
        return by;
    }

    /** For answers that are numbers from 0 on, or else what the call is REFUSED by. */
    private int settle(int answer) {
        return answer < 0 ? refuse(answer) : accept(answer);
    }

    private static boolean isThing(int thing) {
        return thing >= 0 && thing < THINGS;
    }

    private static boolean isYear(int year) {
        return year >= 0 && year <= LAST_YEAR;
    }

    private static boolean isChange(int sort, int place, int thing) {
        return sort >= OUT && sort <= STAND && place >= 0 && place <= MOST_PINCHES && (sort != IN || isThing(thing));
    }

    private static boolean isValueOf(int thing, int what, int value) {
        switch (what) {
            case 0:
                return value >= 0 && value <= 9;
            case 1:
                return value == 0 || value == 1;
            case 2:
                return value == NONE || (isThing(value) && value != thing);
            default:
                return false;
        }
    }

    /** The new HOUSE's number, or what born() is REFUSED by. */
    private int giveBirth(int mother, int sort, int place, int thing) {
        if (!isChange(sort, place, thing)) {
            return BAD_NUMBER;
        }
        if (!valley.hasHouse(mother)) {
            return NOT_THERE;
        }
        if (valley.year < valley.since[mother]) {
            return CANNOT;
        }
        scale.open(valley.year);
        cook.take(valley.dish[mother]);
        int made = cook.makes(sort, place, thing);
        return made == NONE ? CANNOT : valley.add(mother, valley.year, made);
    }

    private boolean keepsCustom(int house) {
        int mother = valley.mother[house];
        if (!valley.hasHouse(mother)) {
            return false;
        }
        scale.open(valley.since[house]);
        cook.listAll(valley.dish[mother]);
        return cook.hasMade(valley.dish[house]);
    }

    private void tellSteward() {
        int[] words = steward.words;
        Arrays.fill(words, NONE);
        words[WORD_DONE] = 0;
        for (int i = 0; i < valley.houses; i++) {
            tellHouse(i);
        }
    }

    private void tellHouse(int house) {
        if (!valley.hasHouse(house)) {
            return;
        }
        steward.words[WORD_LONG + house] = Plate.lengthOf(valley.dish[house]);
        for (int thing = 0; thing < THINGS; thing++) {
            steward.words[WORD_HAS + house * THINGS + thing] = valley.holds(house, thing);
        }
    }

    /** Runs a CLAUSE of ORDERS, if its "if" is so: below 0 what the ORDERS are REFUSED by. */
    private int runOnce(Text text, int clause) {
        int[] words = steward.words;
        words[WORD_YEARS] = valley.year;
        words[WORD_HOUSES] = valley.houses;
        int testAt = text.told(clause, Text.TEST_AT);
        if (testAt != NONE && steward.run(text.code, testAt) != 1) {
            return 0;
        }
        int sort = text.told(clause, Text.KIND);
        long told = steward.run(text.code, text.told(clause, Text.SUM_AT));
        long thing = sort == IN ? steward.run(text.code, text.told(clause, Text.THING_AT)) : 0;
        long place = sort == TURN_YEAR ? 0 : steward.run(text.code, text.told(clause, Text.PLACE_AT));
        if (told == Machine.BROKEN || thing == Machine.BROKEN || place == Machine.BROKEN) {
            return CANNOT;
        }
        words[WORD_DONE]++;
        if (sort == TURN_YEAR) {
            return turnYear((int) told);
        }
        int house = giveBirth((int) told, sort, (int) place, (int) thing);
        if (house < 0) {
            return house == NO_ROOM ? NO_ROOM : CANNOT;
        }
        words[WORD_LAST] = Plate.numberOf(valley.dish[house]);
        tellHouse(house);
        return 0;
    }

    private int turnYear(int year) {
        if (!isYear(year)) {
            return CANNOT;
        }
        valley.turnTo(year);
        return 0;
    }

    /** A DISH taken apart, and what becomes of it: ranks, or NONE where its PINCHES don't allow that. */
    private static final class Plate {
        final int[] pinches = new int[MOST_PINCHES];
        final int[] held = new int[THINGS];
        int length;
        int value;

        static int rankOf(int number) {
            if (number < 0 || number > 66666) {
                return NONE;
            }
            int rest = number;
            int value = 0;
            int length = 0;
            for (int i = 0; i < MOST_PINCHES && rest > 0; i++) {
                int digit = rest % 10;
                if (digit < 1 || digit > THINGS) {
                    return NONE;
                }
                value += (digit - 1) * POWER[i];
                length++;
                rest /= 10;
            }
            return START[length] + value;
        }

        static int numberOf(int rank) {
            if (rank < 0) {
                return NONE;
            }
            int length = lengthOf(rank);
            int rest = rank - START[length];
            int number = 0;
            int unit = 1;
            for (int i = 0; i < length; i++) {
                number += (rest % THINGS + 1) * unit;
                unit *= 10;
                rest /= THINGS;
            }
            return number;
        }

        static int lengthOf(int rank) {
            // from the longest on, as most DISHES are of that kind
            int length = MOST_PINCHES;
            while (length > 0 && rank < START[length]) {
                length--;
            }
            return length;
        }

        /** How many PINCHES of each THING there are, three bits each. */
        static int tasteOf(int rank) {
            int length = lengthOf(rank);
            int rest = rank - START[length];
            int bits = 0;
            for (int i = 0; i < length; i++) {
                bits += 1 << 3 * (rest % THINGS);
                rest /= THINGS;
            }
            return bits;
        }

        static int leftOut(int rank, int thing) {
            int length = lengthOf(rank);
            int rest = rank - START[length];
            int value = 0;
            int kept = 0;
            for (int i = 0; i < length; i++) {
                int pinch = rest % THINGS;
                rest /= THINGS;
                if (pinch != thing) {
                    value += pinch * POWER[kept];
                    kept++;
                }
            }
            return START[kept] + value;
        }

        void load(int rank) {
            length = lengthOf(rank);
            value = rank - START[length];
            for (int i = 0; i < THINGS; i++) {
                held[i] = 0;
            }
            int rest = value;
            for (int i = length - 1; i >= 0; i--) {
                int thing = rest % THINGS;
                pinches[i] = thing;
                held[thing]++;
                rest /= THINGS;
            }
        }

        boolean hasPlace(int place) {
            return place >= 0 && place < length;
        }

        boolean hasRoomAt(int place) {
            return place >= 0 && place <= length && length < MOST_PINCHES;
        }

        int without(int place) {
            if (!hasPlace(place)) {
                return NONE;
            }
            int unit = POWER[length - 1 - place];
            return START[length - 1] + value / (unit * THINGS) * unit + value % unit;
        }

        int with(int place, int thing) {
            if (!hasRoomAt(place)) {
                return NONE;
            }
            int unit = POWER[length - place];
            return START[length + 1] + (value / unit * THINGS + thing) * unit + value % unit;
        }

        int swapped(int place) {
            if (!hasPlace(place) || !hasPlace(place + 1) || pinches[place] == pinches[place + 1]) {
                return NONE;
            }
            int more = pinches[place + 1] - pinches[place];
            return START[length] + value + more * (POWER[length - 1 - place] - POWER[length - 2 - place]);
        }

        int doubled(int place) {
            return hasPlace(place) ? with(place, pinches[place]) : NONE;
        }

        int replaced(int place, int thing) {
            if (!hasPlace(place) || thing == NONE) {
                return NONE;
            }
            return START[length] + value + (thing - pinches[place]) * POWER[length - 1 - place];
        }
    }

    /** All that IMAGES keep. */
    private static final class Valley {
        private final int[] sweet = new int[THINGS];
        private final int[] got = {1, 1, 1, 1, 1, 1};
        private final int[] standIn = {NONE, NONE, NONE, NONE, NONE, NONE};
        private final int[] mother = new int[MOST_HOUSES];
        private final int[] since = new int[MOST_HOUSES];
        private final int[] dish = new int[MOST_HOUSES];
        /** Of each HOUSE's DISH, as tasteOf tells. */
        private final int[] taste = new int[MOST_HOUSES];
        private final Text[] laws = new Text[MOST_LAWS];
        private int houses;
        private int lawCount;
        private int inForce = NONE;
        private int year;
        private int mood;
        /** Tells what was worked out by other rules from what stands now; no IMAGE brings an old one back. */
        private int rules = 1;
        /** The same for rules, HOUSES and the YEAR together. */
        private int stamp = 1;

        void touchRules() {
            rules++;
            stamp++;
        }

        void takeFrom(Valley other) {
            System.arraycopy(other.sweet, 0, sweet, 0, THINGS);
            System.arraycopy(other.got, 0, got, 0, THINGS);
            System.arraycopy(other.standIn, 0, standIn, 0, THINGS);
            System.arraycopy(other.mother, 0, mother, 0, MOST_HOUSES);
            System.arraycopy(other.since, 0, since, 0, MOST_HOUSES);
            System.arraycopy(other.dish, 0, dish, 0, MOST_HOUSES);
            System.arraycopy(other.taste, 0, taste, 0, MOST_HOUSES);
            System.arraycopy(other.laws, 0, laws, 0, MOST_LAWS);
            houses = other.houses;
            lawCount = other.lawCount;
            inForce = other.inForce;
            year = other.year;
            mood = other.mood;
            touchRules();
        }

        int[] thingRow(int what) {
            if (what == 0) {
                return sweet;
            }
            return what == 1 ? got : standIn;
        }

        boolean hasHouse(int house) {
            return house >= 0 && house < houses;
        }

        int add(int itsMother, int itsYear, int rank) {
            if (houses >= MOST_HOUSES) {
                return NO_ROOM;
            }
            mother[houses] = itsMother;
            since[houses] = itsYear;
            dish[houses] = rank;
            taste[houses] = Plate.tasteOf(rank);
            stamp++;
            houses++;
            return houses - 1;
        }

        void keepHouses(int some) {
            houses = Math.max(0, Math.min(houses, some));
            stamp++;
        }

        void turnTo(int toYear) {
            year = toYear;
            stamp++;
        }

        int addLaw(Text text) {
            if (lawCount >= MOST_LAWS) {
                return NO_ROOM;
            }
            laws[lawCount] = text;
            lawCount++;
            return lawCount - 1;
        }

        Text textInForce() {
            return inForce >= 0 && inForce < lawCount ? laws[inForce] : null;
        }

        int holds(int house, int thing) {
            return taste[house] >> 3 * thing & 7;
        }

        int daughtersOf(int house) {
            int some = 0;
            for (int i = 0; i < houses; i++) {
                some += mother[i] == house ? 1 : 0;
            }
            return some;
        }

        int changedBack(int house) {
            int above = mother[house];
            for (int up = 1; up < MOST_HOUSES && hasHouse(above); up++) {
                if (dish[above] == dish[house]) {
                    return up;
                }
                above = mother[above];
            }
            return NONE;
        }

        int yearBehind(int other) {
            int next = NONE;
            for (int i = 0; i < houses; i++) {
                if (since[i] > other && (next == NONE || since[i] < next)) {
                    next = since[i];
                }
            }
            return next;
        }

        boolean isPoor(int fromYear, int thing) {
            boolean was = false;
            for (int i = 0; i < houses; i++) {
                if (holds(i, thing) > 0) {
                    if (since[i] >= fromYear) {
                        return false;
                    }
                    was = true;
                }
            }
            return was;
        }

        /** HOUSES as bits; 0 (none told) if one of them is not there, as no answer can be of such ones. */
        int toldOf(int bits) {
            return bits >> houses == 0 ? bits : 0;
        }

        int groupsBy(int told, int things) {
            int mask = 0;
            for (int i = 0; i < THINGS; i++) {
                mask |= (things >> i & 1) * 7 << 3 * i;
            }
            int groups = 0;
            for (int i = 0; i < houses; i++) {
                groups += (told >> i & 1) == 1 && !isLikeEarlier(told, i, mask) ? 1 : 0;
            }
            return groups;
        }

        private boolean isLikeEarlier(int told, int house, int mask) {
            for (int i = 0; i < house; i++) {
                if ((told >> i & 1) == 1 && ((taste[i] ^ taste[house]) & mask) == 0) {
                    return true;
                }
            }
            return false;
        }

        /** The THING that is GOT at the end of the chain of STAND-INS; NONE for a ring, too. */
        int gotInstead(int thing) {
            int now = thing;
            for (int i = 0; i < THINGS && isThing(now); i++) {
                if (got[now] == 1) {
                    return now;
                }
                now = standIn[now];
            }
            return NONE;
        }
    }

    /** A TEXT that was read: its CLAUSES, and code for a Machine. */
    private static final class Text {
        static final int KIND = 0;
        static final int TIMES = 1;
        static final int TEST_AT = 2;
        static final int SUM_AT = 3;
        static final int THING_AT = 4;
        static final int PLACE_AT = 5;
        static final int FIELDS = 6;

        final int[] clauses;
        final int[] code;
        int size;
        int used;
        boolean asksYear;

        Text(int clauseRoom, int codeRoom) {
            clauses = new int[clauseRoom * FIELDS];
            code = new int[codeRoom];
        }

        Text kept() {
            Text copy = new Text(size, used);
            System.arraycopy(clauses, 0, copy.clauses, 0, size * FIELDS);
            System.arraycopy(code, 0, copy.code, 0, used);
            copy.size = size;
            copy.used = used;
            copy.asksYear = asksYear;
            return copy;
        }

        void clear() {
            size = 0;
            used = 0;
            asksYear = false;
        }

        void open(int kind) {
            size++;
            set(KIND, kind);
            set(TIMES, 1);
            for (int field = TEST_AT; field < FIELDS; field++) {
                set(field, NONE);
            }
        }

        void set(int field, int value) {
            int index = (size - 1) * FIELDS + field;
            if (index >= 0 && index < clauses.length) {
                clauses[index] = value;
            }
        }

        int told(int clause, int field) {
            int index = clause * FIELDS + field;
            return index >= 0 && index < clauses.length ? clauses[index] : NONE;
        }

        int emit(int op, int argument) {
            if (used < code.length) {
                code[used] = argument * 16 + op;
                used++;
            }
            return used - 1;
        }

        /** A jump is written ahead of what it jumps over, so it is told where to go when that stands. */
        void aim(int jump) {
            if (jump >= 0 && jump < used) {
                code[jump] += used * 16;
            }
        }
    }

    /** The TAPE, and the reading of both languages from it. */
    private static final class Reader {
        private static final int MOST_BYTES = 400;
        private static final int MOST_CLAUSES = 12;
        private static final int MOST_PARTS = 50;
        private static final int MOST_BRACKETS = 8;
        private static final int MOST_NUMBER = 1000;
        private static final int MOST_TIMES = 20;

        private static final int LETTER = 0;
        private static final int DIGIT = 1;
        private static final int OTHER = 2;

        /** TOKENS are numbers: a single byte is itself, then these, and from NUMBERS on what a NUMBER tells. */
        private static final int AT_END = 256;
        private static final int NO_WORD = 257;
        private static final int WEIGHS_WORD = 258;
        private static final int BARS = 259;
        private static final int BORN = 260;
        private static final int TIMES = 261;
        private static final int IF = 262;
        private static final int OR = 263;
        private static final int AND = 264;
        private static final int NOT = 265;
        private static final int AT = 266;
        private static final int FIRST_SORT = 267;
        private static final int LAST_SORT = 271;
        private static final int FIRST_OF_LAW = 272;
        private static final int LONG = 275;
        private static final int HAS = 276;
        private static final int YEAR = 278;
        private static final int LAST_OF_LAW = 279;
        private static final int FIRST_OF_ORDERS = 280;
        private static final int LAST_OF_ORDERS = 283;
        private static final int NUMBERS = 1000;
        /** All words from WEIGHS_WORD on; the sorts and each language's words are in the order of their numbers. */
        private static final String ALL_WORDS =
            "weighs bars born times if or and not at out in swap double stand sort thing place long has sweet year mood years houses done last";

        private final int[] bytes = new int[MOST_BYTES];
        private final int[] tokens = new int[MOST_BYTES + 1];
        private final int[] places = new int[MOST_BYTES + 1];
        /** No TOKEN gives more than one instruction, and one more closes a SUM or a TEST. */
        final Text draft = new Text(MOST_CLAUSES, 2 * MOST_BYTES);
        int size;
        int fault = NONE;
        private boolean inOrders;
        private int now;
        private int token;
        private int parts;

        boolean hasRoomFor(int more) {
            return size + more <= MOST_BYTES;
        }

        void addFour(int number) {
            if (!hasRoomFor(4)) {
                return;
            }
            for (int shift = 24; shift >= 0; shift -= 8) {
                bytes[size] = number >> shift & 255;
                size++;
            }
        }

        int byteAt(int place) {
            return place >= 0 && place < size && place < MOST_BYTES ? bytes[place] : 0;
        }

        /** The rank of the DISH that the bytes are, NONE for one that must burn. */
        int dishAt(int from, int behind) {
            if (behind - from > MOST_PINCHES) {
                return NONE;
            }
            int number = 0;
            for (int i = from; i < behind; i++) {
                if (byteAt(i) > THINGS) {
                    return NONE;
                }
                number = number * 10 + byteAt(i);
            }
            return Plate.rankOf(number);
        }

        boolean read(boolean asOrders) {
            inOrders = asOrders;
            fault = NONE;
            parts = 0;
            draft.clear();
            cutTokens();
            now = 0;
            token = tokens[0];
            for (int i = 0; i < MOST_CLAUSES; i++) {
                if (!(inOrders ? orderClause() : lawClause())) {
                    return false;
                }
                if (token == AT_END) {
                    return true;
                }
                if (token != ';') {
                    return fail();
                }
                next();
            }
            return fail();
        }

        private void cutTokens() {
            int made = 0;
            int place = 0;
            while (place < size && made < MOST_BYTES) {
                int kind = kindAt(place);
                int behind = place + 1;
                while (kind != OTHER && behind < size && kindAt(behind) == kind) {
                    behind++;
                }
                if (byteAt(place) != ' ') {
                    tokens[made] = tokenOf(kind, place, behind);
                    places[made] = place;
                    made++;
                }
                place = behind;
            }
            tokens[made] = AT_END;
            places[made] = size;
        }

        private int kindAt(int place) {
            int sign = byteAt(place);
            if (sign >= 'a' && sign <= 'z') {
                return LETTER;
            }
            return sign >= '0' && sign <= '9' ? DIGIT : OTHER;
        }

        private int tokenOf(int kind, int from, int behind) {
            if (kind == OTHER) {
                return byteAt(from);
            }
            if (kind == LETTER) {
                return wordOf(from, behind);
            }
            int value = 0;
            for (int i = from; i < behind; i++) {
                // beyond every limit one NUMBER is as good as another
                value = Math.min(value * 10 + byteAt(i) - '0', MOST_NUMBER + 1);
            }
            return NUMBERS + value;
        }

        private int wordOf(int from, int behind) {
            int word = WEIGHS_WORD;
            int letters = 0;
            boolean same = true;
            for (int i = 0; i <= ALL_WORDS.length(); i++) {
                if (i < ALL_WORDS.length() && ALL_WORDS.charAt(i) != ' ') {
                    same = same && letters < behind - from && byteAt(from + letters) == ALL_WORDS.charAt(i);
                    letters++;
                    continue;
                }
                if (same && letters == behind - from) {
                    return word;
                }
                word++;
                letters = 0;
                same = true;
            }
            return NO_WORD;
        }

        private void next() {
            now = now < MOST_BYTES ? now + 1 : now;
            token = tokens[now];
        }

        private boolean fail() {
            fault = places[now];
            return false;
        }

        private boolean lawClause() {
            if (token != WEIGHS_WORD && token != BARS) {
                return fail();
            }
            int kind = token - WEIGHS_WORD;
            draft.open(kind);
            next();
            return (kind != WEIGHS || sumFor(Text.SUM_AT)) && condition();
        }

        private boolean orderClause() {
            boolean isBirth = token == BORN;
            if (!isBirth && token != YEAR) {
                return fail();
            }
            draft.open(TURN_YEAR);
            next();
            if (!sumFor(Text.SUM_AT) || (isBirth && !how())) {
                return false;
            }
            if (token == TIMES) {
                next();
                if (token < NUMBERS + 1 || token > NUMBERS + MOST_TIMES) {
                    return fail();
                }
                draft.set(Text.TIMES, token - NUMBERS);
                next();
            }
            return condition();
        }

        private boolean how() {
            if (token < FIRST_SORT || token > LAST_SORT) {
                return fail();
            }
            int sort = token - FIRST_SORT;
            draft.set(Text.KIND, sort);
            next();
            if (sort == IN && !sumFor(Text.THING_AT)) {
                return false;
            }
            if (token != AT) {
                return fail();
            }
            next();
            return sumFor(Text.PLACE_AT);
        }

        private boolean condition() {
            if (token != IF) {
                return true;
            }
            next();
            draft.set(Text.TEST_AT, draft.used);
            if (!test(0)) {
                return false;
            }
            draft.emit(Machine.STOP, 0);
            return true;
        }

        private boolean sumFor(int field) {
            draft.set(field, draft.used);
            if (!sum(0)) {
                return false;
            }
            draft.emit(Machine.STOP, 0);
            return true;
        }

        /** Here and below, depth tells how many brackets stand open. */
        private boolean test(int depth) {
            if (!both(depth)) {
                return false;
            }
            for (int i = 0; i < MOST_BYTES && token == OR; i++) {
                int jump = draft.emit(Machine.JUMP_IF_SO, 0);
                next();
                if (!both(depth)) {
                    return false;
                }
                draft.aim(jump);
            }
            return true;
        }

        private boolean both(int depth) {
            if (!plain(depth)) {
                return false;
            }
            for (int i = 0; i < MOST_BYTES && token == AND; i++) {
                int jump = draft.emit(Machine.JUMP_IF_NOT, 0);
                next();
                if (!plain(depth)) {
                    return false;
                }
                draft.aim(jump);
            }
            return true;
        }

        private boolean plain(int depth) {
            boolean turned = false;
            // a loop, as a TEXT may have a hundred of them in a row
            for (int i = 0; i < MOST_BYTES && token == NOT; i++) {
                turned = !turned;
                next();
            }
            if (token == '(') {
                if (!inRound(depth)) {
                    return false;
                }
            } else {
                if (!sum(depth)) {
                    return false;
                }
                int op = opOf(Machine.LESS, Machine.SAME);
                if (op == NONE) {
                    return fail();
                }
                next();
                if (!sum(depth)) {
                    return false;
                }
                draft.emit(op, 0);
            }
            if (turned) {
                draft.emit(Machine.NOT, 0);
            }
            return true;
        }

        private boolean inRound(int depth) {
            if (depth >= MOST_BRACKETS) {
                return fail();
            }
            next();
            if (!test(depth + 1)) {
                return false;
            }
            if (token != ')') {
                return fail();
            }
            next();
            return true;
        }

        private boolean sum(int depth) {
            if (!term(depth)) {
                return false;
            }
            int op = opOf(Machine.ADD, Machine.TAKE);
            for (int i = 0; i < MOST_BYTES && op != NONE; i++) {
                next();
                if (!term(depth)) {
                    return false;
                }
                draft.emit(op, 0);
                op = opOf(Machine.ADD, Machine.TAKE);
            }
            return true;
        }

        private boolean term(int depth) {
            if (!part(depth)) {
                return false;
            }
            int op = opOf(Machine.TIMES, Machine.REST);
            for (int i = 0; i < MOST_BYTES && op != NONE; i++) {
                next();
                if (!part(depth)) {
                    return false;
                }
                draft.emit(op, 0);
                op = opOf(Machine.TIMES, Machine.REST);
            }
            return true;
        }

        /** The instruction that this TOKEN is a sign for, if it is one of those asked for. */
        private int opOf(int low, int high) {
            int op;
            switch (token) {
                case '+':
                    op = Machine.ADD;
                    break;
                case '-':
                    op = Machine.TAKE;
                    break;
                case '*':
                    op = Machine.TIMES;
                    break;
                case '/':
                    op = Machine.DIVIDE;
                    break;
                case '%':
                    op = Machine.REST;
                    break;
                case '<':
                    op = Machine.LESS;
                    break;
                case '>':
                    op = Machine.MORE;
                    break;
                case '=':
                    op = Machine.SAME;
                    break;
                default:
                    op = NONE;
                    break;
            }
            return op >= low && op <= high ? op : NONE;
        }

        private boolean part(int depth) {
            if (token == '[') {
                return inSquare(depth);
            }
            if (parts >= MOST_PARTS || token > NUMBERS + MOST_NUMBER) {
                return fail();
            }
            parts++;
            if (token >= NUMBERS) {
                draft.emit(Machine.NUMBER, token - NUMBERS);
                next();
                return true;
            }
            int word = inOrders ? orderWord() : lawWord();
            if (word == NONE) {
                return fail();
            }
            draft.emit(Machine.WORD, word);
            next();
            return true;
        }

        private boolean inSquare(int depth) {
            if (depth >= MOST_BRACKETS) {
                return fail();
            }
            next();
            if (!sum(depth + 1)) {
                return false;
            }
            if (token != ']') {
                return fail();
            }
            next();
            return true;
        }

        private int lawWord() {
            draft.asksYear |= token == YEAR;
            return token >= FIRST_OF_LAW && token <= LAST_OF_LAW ? token - FIRST_OF_LAW : NONE;
        }

        /** Goes on to the word's last TOKEN, or to the one that can't stand there. */
        private int orderWord() {
            if (token >= FIRST_OF_ORDERS && token <= LAST_OF_ORDERS) {
                return WORD_YEARS + token - FIRST_OF_ORDERS;
            }
            if (token != LONG && token != HAS) {
                return NONE;
            }
            boolean isLong = token == LONG;
            next();
            int house = token - NUMBERS;
            if (house < 0 || house >= MOST_HOUSES) {
                return NONE;
            }
            if (isLong) {
                return WORD_LONG + house;
            }
            next();
            int thing = token - NUMBERS;
            return isThing(thing) ? WORD_HAS + house * THINGS + thing : NONE;
        }
    }

    /** Works out SUMS and TESTS: a TEST is 1 if it is so, else 0. */
    private static final class Machine {
        /** Beyond what two numbers within the bounds can come to. */
        static final long BROKEN = -(1L << 62);
        private static final long MOST = 1000000000;

        static final int STOP = 0;
        static final int NUMBER = 1;
        static final int WORD = 2;
        static final int ADD = 3;
        static final int TAKE = 4;
        static final int TIMES = 5;
        static final int DIVIDE = 6;
        static final int REST = 7;
        static final int LESS = 8;
        static final int MORE = 9;
        static final int SAME = 10;
        static final int NOT = 11;
        static final int JUMP_IF_SO = 12;
        static final int JUMP_IF_NOT = 13;

        final int[] words = new int[WORDS];
        /** A TEXT has at most fifty PARTS, so no more can wait here. */
        private final long[] stack = new long[64];

        long run(int[] code, int from) {
            int top = 0;
            for (int at = Math.max(from, 0); at < code.length; at++) {
                int op = code[at] & 15;
                int argument = code[at] >> 4;
                if (op == NUMBER || op == WORD) {
                    if (top >= stack.length || (op == WORD && argument >= WORDS)) {
                        return BROKEN;
                    }
                    stack[top] = op == NUMBER ? argument : words[argument];
                    top++;
                    continue;
                }
                if (top < 1) {
                    return BROKEN;
                }
                if (op == STOP) {
                    return stack[0];
                }
                if (op == NOT) {
                    stack[top - 1] = 1 - stack[top - 1];
                } else if (op == JUMP_IF_SO || op == JUMP_IF_NOT) {
                    boolean settled = stack[top - 1] == 1 == (op == JUMP_IF_SO);
                    // what settles it stays there as the answer
                    at = settled ? Math.max(at, argument - 1) : at;
                    top = settled ? top : top - 1;
                } else {
                    long answer = top < 2 ? BROKEN : apply(op, stack[top - 2], stack[top - 1]);
                    if (answer == BROKEN) {
                        return BROKEN;
                    }
                    top--;
                    stack[top - 1] = answer;
                }
            }
            return BROKEN;
        }

        private static long apply(int op, long a, long b) {
            long answer;
            switch (op) {
                case ADD:
                    answer = a + b;
                    break;
                case TAKE:
                    answer = a - b;
                    break;
                case TIMES:
                    answer = a * b;
                    break;
                case DIVIDE:
                    answer = b == 0 ? BROKEN : a / b;
                    break;
                case REST:
                    answer = b == 0 ? BROKEN : a % b;
                    break;
                case LESS:
                    answer = a < b ? 1 : 0;
                    break;
                case MORE:
                    answer = a > b ? 1 : 0;
                    break;
                default:
                    answer = a == b ? 1 : 0;
                    break;
            }
            return answer > MOST || answer < -MOST ? BROKEN : answer;
        }
    }

    /** What CHANGES weigh in one YEAR; it is kept, as the search for ways asks the same again and again. */
    private static final class Scale {
        private static final int MOST_WEIGHT = 99;
        private static final int MOST_CELLS = 5 * 6 * 6 * 6 * 6;

        private final Valley valley;
        private final Machine machine = new Machine();
        /** Weights (1 more, 0: it can't be) behind the turn in which they were worked out. */
        private final int[] cells = new int[MOST_CELLS];
        private Text text;
        private int turn;
        private int rules;
        private int year;

        Scale(Valley valley) {
            this.valley = valley;
        }

        /** To be called ahead of what follows, as the rules may be others now. */
        void open(int forYear) {
            boolean sameYear = year == forYear || text == null || !text.asksYear;
            if (rules == valley.rules && sameYear) {
                return;
            }
            rules = valley.rules;
            year = forYear;
            text = valley.textInForce();
            turn++;
        }

        /** Whether no LAW is asked, so that how many PINCHES there are does not matter. */
        boolean isFree() {
            return text == null;
        }

        /** What a CHANGE weighs that the PINCHES allow, NONE if it can't be. */
        int weightOf(int sort, int thing, int place, int length, int held) {
            if ((sort == IN || sort == DOUBLE) && valley.got[thing] == 0) {
                return NONE;
            }
            if (text == null) {
                return 1;
            }
            int cell = (((sort * 6 + thing) * 6 + place) * 6 + length) * 6 + held;
            if (cell < 0 || cell >= MOST_CELLS) {
                return NONE;
            }
            if (cells[cell] >> 7 != turn) {
                int[] words = machine.words;
                words[0] = sort;
                words[1] = thing;
                words[2] = place;
                words[3] = length;
                words[4] = held;
                words[5] = valley.sweet[thing];
                words[6] = year;
                words[7] = valley.mood;
                cells[cell] = (turn << 7) + askLaw() + 1;
            }
            return (cells[cell] & 127) - 1;
        }

        private int askLaw() {
            int weight = 1;
            for (int i = 0; i < text.size; i++) {
                int testAt = text.told(i, Text.TEST_AT);
                if (testAt != NONE && machine.run(text.code, testAt) != 1) {
                    continue;
                }
                if (text.told(i, Text.KIND) != WEIGHS) {
                    return NONE;
                }
                long told = machine.run(text.code, text.told(i, Text.SUM_AT));
                if (told != Machine.BROKEN) {
                    weight = (int) Math.max(0, Math.min(MOST_WEIGHT, told));
                }
            }
            return weight;
        }
    }

    /** Makes CHANGES of a DISH, in the YEAR for which the scale is open. */
    private static final class Cook {
        /** LONG 4 has the most: 4 OUT, 30 IN, 3 SWAP, 4 DOUBLE, 4 STAND. */
        private static final int MOST_CHANGES = 45;

        private final Valley valley;
        private final Scale scale;
        private final Plate plate = new Plate();
        final int[] made = new int[MOST_CHANGES];
        final int[] weights = new int[MOST_CHANGES];
        int size;
        int sum;
        int lastWeight;

        Cook(Valley valley, Scale scale) {
            this.valley = valley;
            this.scale = scale;
        }

        void take(int rank) {
            plate.load(rank);
        }

        /** What a CHANGE makes of the DISH that was taken, NONE if it can't be. */
        int makes(int sort, int place, int thing) {
            int rank;
            switch (sort) {
                case OUT:
                    rank = plate.without(place);
                    break;
                case IN:
                    rank = plate.with(place, thing);
                    break;
                case SWAP:
                    rank = plate.swapped(place);
                    break;
                case DOUBLE:
                    rank = plate.doubled(place);
                    break;
                default:
                    rank = plate.hasPlace(place) ? plate.replaced(place, valley.standIn[plate.pinches[place]]) : NONE;
                    break;
            }
            if (rank == NONE) {
                return NONE;
            }
            int whose = sort == IN ? thing : plate.pinches[place];
            lastWeight = scale.weightOf(sort, whose, place, plate.length, plate.held[whose]);
            return lastWeight == NONE ? NONE : rank;
        }

        void listAll(int rank) {
            plate.load(rank);
            size = 0;
            sum = 0;
            for (int sort = OUT; sort <= STAND; sort++) {
                int things = sort == IN ? THINGS : 1;
                for (int i = 0; i < (plate.length + 1) * things; i++) {
                    int next = makes(sort, i / things, i % things);
                    if (next != NONE && size < MOST_CHANGES) {
                        made[size] = next;
                        weights[size] = lastWeight;
                        sum += lastWeight;
                        size++;
                    }
                }
            }
        }

        boolean hasMade(int rank) {
            for (int i = 0; i < size; i++) {
                if (made[i] == rank) {
                    return true;
                }
            }
            return false;
        }

        /** The lowest above another one of all made from which so many STEPS are left. */
        int lowestMade(int above, Distances table, int left) {
            int lowest = NONE;
            for (int i = 0; i < size; i++) {
                int rank = made[i];
                if (rank > above && (lowest == NONE || rank < lowest) && table.far[rank] == left) {
                    lowest = rank;
                }
            }
            return lowest;
        }

        /** The one on which a DRAW of the sum falls. */
        int madeBy(int draw) {
            int left = draw;
            for (int i = 0; i < size; i++) {
                left -= weights[i];
                if (left < 0) {
                    return made[i];
                }
            }
            return NONE;
        }
    }

    /**
     * STEPS to one DISH from all others, in one YEAR. It is sought backwards from that DISH, and only as far as
     * it was asked for: a later question goes on from there.
     *
     * <p>This is where most of the time goes: ranks are worked out by arithmetic while the digits of a DISH are
     * taken off from the right, and rules are asked only for DISHES that were not yet found.
     */
    private static final class Distances {
        private final Valley valley;
        private final Scale scale;
        final short[] far = new short[DISHES];
        private final short[] queue = new short[DISHES];
        private int head;
        private int tail;
        private short next;
        private int goal;
        private int year;
        private int rules;
        /** The THINGS that stand in for another, as bits. */
        private int standers;

        Distances(Valley valley, Scale scale) {
            this.valley = valley;
            this.scale = scale;
        }

        boolean isOf(int rank, int itsYear) {
            return goal == rank && year == itsYear && rules == valley.rules;
        }

        void begin(int rank, int itsYear) {
            goal = rank;
            year = itsYear;
            rules = valley.rules;
            standers = 0;
            for (int i = 0; i < THINGS; i++) {
                standers |= valley.standIn[i] == NONE ? 0 : 1 << valley.standIn[i];
            }
            Arrays.fill(far, (short) NONE);
            head = 0;
            tail = 0;
            next = 0;
            note(rank);
        }

        /** On by some DISHES at most, till the STEPS from one (NONE: from none) are known. */
        void spread(int rank, int most) {
            int sought = rank >= 0 && rank < DISHES ? rank : NONE;
            for (int turn = 0; turn < most && head < tail && head < DISHES; turn++) {
                if (sought != NONE && far[sought] != NONE) {
                    return;
                }
                int from = queue[head];
                head++;
                next = (short) (far[from] + 1);
                int length = Plate.lengthOf(from);
                int taste = scale.isFree() ? 0 : Plate.tasteOf(from);
                undoInAndDouble(from, length, taste);
                undoSwap(from, length, taste);
                if (length < MOST_PINCHES) {
                    undoOut(from, length, taste);
                }
                if (standers != 0) {
                    undoStand(from, length, taste);
                }
            }
        }

        private void note(int rank) {
            if (tail < DISHES && rank >= 0 && rank < DISHES) {
                far[rank] = next;
                queue[tail] = (short) rank;
                tail++;
            }
        }

        private void undoOut(int to, int length, int taste) {
            int high = to - START[length];
            int low = 0;
            int unit = 1;
            for (int place = length; place >= 0; place--) {
                int rank = START[length + 1] + high * THINGS * unit + low;
                boolean known = rank >= 0 && rank + (THINGS - 1) * unit < DISHES;
                for (int thing = 0; thing < THINGS && known; thing++) {
                    if (far[rank] == NONE
                        && scale.weightOf(OUT, thing, place, length + 1, (taste >> 3 * thing & 7) + 1) != NONE) {
                        note(rank);
                    }
                    rank += unit;
                }
                low += high % THINGS * unit;
                high /= THINGS;
                unit *= THINGS;
            }
        }

        private void undoInAndDouble(int to, int length, int taste) {
            int high = to - START[length];
            int low = 0;
            int unit = 1;
            int right = NONE;
            for (int place = length - 1; place >= 0; place--) {
                int thing = high % THINGS;
                high /= THINGS;
                int rank = START[length - 1] + high * unit + low;
                if (rank >= 0 && rank < DISHES && far[rank] == NONE) {
                    int held = (taste >> 3 * thing & 7) - 1;
                    if (scale.weightOf(IN, thing, place, length - 1, held) != NONE
                        || (right == thing && scale.weightOf(DOUBLE, thing, place, length - 1, held) != NONE)) {
                        note(rank);
                    }
                }
                low += thing * unit;
                unit *= THINGS;
                right = thing;
            }
        }

        private void undoSwap(int to, int length, int taste) {
            int high = to - START[length];
            int right = high % THINGS;
            int unit = 1;
            for (int place = length - 2; place >= 0; place--) {
                high /= THINGS;
                int thing = high % THINGS;
                // what is at the place goes up to the sixfold unit, what is behind it comes down from there
                int rank = to + (right - thing) * unit * (THINGS - 1);
                if (rank >= 0 && rank < DISHES && far[rank] == NONE
                    && scale.weightOf(SWAP, right, place, length, taste >> 3 * right & 7) != NONE) {
                    note(rank);
                }
                unit *= THINGS;
                right = thing;
            }
        }

        private void undoStand(int to, int length, int taste) {
            int high = to - START[length];
            int unit = 1;
            for (int place = length - 1; place >= 0; place--) {
                int stander = high % THINGS;
                for (int thing = 0; thing < THINGS && (standers >> stander & 1) == 1; thing++) {
                    int rank = to + (thing - stander) * unit;
                    if (valley.standIn[thing] == stander && rank >= 0 && rank < DISHES && far[rank] == NONE
                        && scale.weightOf(STAND, thing, place, length, (taste >> 3 * thing & 7) + 1) != NONE) {
                        note(rank);
                    }
                }
                high /= THINGS;
                unit *= THINGS;
            }
        }
    }

    /** STEPS between DISHES, and THE FIRST of told HOUSES. */
    private static final class Paths {
        /** Some tables are kept, as the same way is mostly asked for more than once. */
        private static final int TABLES = 3;

        private final Valley valley;
        private final Scale scale;
        private final Distances[] tables = new Distances[TABLES];
        private int turn;
        private int[] sums;
        private int toldFirst;
        private int stamp;
        int leastSum;
        int leastCount;
        int leastRank;

        Paths(Valley valley, Scale scale) {
            this.valley = valley;
            this.scale = scale;
        }

        Distances tableTo(int rank, int year) {
            scale.open(year);
            for (int i = 0; i < TABLES; i++) {
                Distances table = tables[i];
                if (table != null && table.isOf(rank, year)) {
                    return table;
                }
            }
            turn = (turn + 1) % TABLES;
            if (tables[turn] == null) {
                tables[turn] = new Distances(valley, scale);
            }
            tables[turn].begin(rank, year);
            return tables[turn];
        }

        int stepsFrom(int from, int to, int year) {
            Distances table = tableTo(to, year);
            table.spread(from, DISHES);
            return table.far[from];
        }

        void seekFirst(int told) {
            if (toldFirst == told && stamp == valley.stamp) {
                return;
            }
            toldFirst = told;
            stamp = valley.stamp;
            if (sums == null) {
                sums = new int[DISHES];
            }
            Arrays.fill(sums, 0);
            for (int house = 0; house < valley.houses; house++) {
                if ((told >> house & 1) == 1) {
                    Distances table = tableTo(valley.dish[house], valley.year);
                    table.spread(NONE, DISHES);
                    addFrom(table.far);
                }
            }
            findLeast();
        }

        private void addFrom(short[] far) {
            for (int rank = 0; rank < DISHES; rank++) {
                sums[rank] = sums[rank] == NONE || far[rank] == NONE ? NONE : sums[rank] + far[rank];
            }
        }

        private void findLeast() {
            leastSum = NONE;
            leastCount = 0;
            leastRank = NONE;
            for (int rank = 0; rank < DISHES; rank++) {
                int sum = sums[rank];
                if (sum == NONE || (leastSum != NONE && sum > leastSum)) {
                    continue;
                }
                if (sum != leastSum) {
                    leastSum = sum;
                    leastCount = 0;
                    leastRank = rank;
                }
                leastCount++;
            }
        }
    }

    /** LINES of told HOUSES: once it is known how few STEPS they can have, the rows that have so few are tried. */
    private static final class Pedigree {
        /** Above all STEPS that there can be, for what can't be reached. */
        private static final int FAR = 1000000;

        private final int[] houses = new int[MOST_TOLD];
        private final int[] steps = new int[MOST_TOLD * MOST_TOLD];
        private final int[] mothers = new int[MOST_TOLD];
        private final int[] best = new int[MOST_TOLD];
        /** By sets of told ones, as bits: the fewest STEPS to have them all of one of them. */
        private final int[] fewest = new int[1 << MOST_TOLD];
        /** The nearest MOTHER's STEPS of those from a place on, together, and the most of one. */
        private final int[] floor = new int[MOST_TOLD + 1];
        private final int[] dearest = new int[MOST_TOLD + 1];
        private int size;
        private int told;
        private int stamp;
        int leastSum;
        int rows;

        boolean isOf(int someTold, int someStamp) {
            return told == someTold && stamp == someStamp;
        }

        void take(int someTold, int someStamp) {
            told = someTold;
            stamp = someStamp;
            size = 0;
            for (int house = 0; house < MOST_HOUSES && size < MOST_TOLD; house++) {
                if ((told >> house & 1) == 1) {
                    houses[size] = house;
                    size++;
                }
            }
        }

        int houseAt(int i) {
            return i >= 0 && i < size ? houses[i] : 0;
        }

        void setSteps(int from, int to, int some) {
            int index = from * MOST_TOLD + to;
            if (index >= 0 && index < steps.length) {
                steps[index] = some == NONE ? FAR : some;
            }
        }

        int bestMother(int i) {
            if (i < 0 || i >= size) {
                return NONE;
            }
            return best[i] == NONE ? NO_MOTHER : houseAt(best[i]);
        }

        void search() {
            rows = 0;
            workFewest();
            workFloor();
            leastSum = fewest[(1 << size) - 1];
            if (leastSum < FAR) {
                seek(0, NONE, 0);
            }
        }

        /** A set grows by one daughter at a time, so each smaller set stands before it is asked for. */
        private void workFewest() {
            for (int set = 1; set < 1 << size; set++) {
                fewest[set] = Integer.bitCount(set) == 1 ? 0 : FAR;
                for (int daughter = 0; daughter < size; daughter++) {
                    int others = set & ~(1 << daughter);
                    if (others != set && others != 0) {
                        fewest[set] = Math.min(fewest[set], fewest[others] + nearest(others, daughter));
                    }
                }
            }
        }

        private int nearest(int set, int daughter) {
            int least = FAR;
            for (int i = 0; i < size; i++) {
                if ((set >> i & 1) == 1) {
                    least = Math.min(least, steps[i * MOST_TOLD + daughter]);
                }
            }
            return least;
        }

        private void workFloor() {
            int all = (1 << size) - 1;
            floor[size] = 0;
            dearest[size] = 0;
            for (int i = size - 1; i >= 0; i--) {
                int least = nearest(all & ~(1 << i), i);
                floor[i] = floor[i + 1] + least;
                dearest[i] = Math.max(dearest[i + 1], least);
            }
        }

        /** Tries all MOTHERS of the daughter's place and of those behind it; root is who comes of none, if any yet. */
        private void seek(int daughter, int root, int sum) {
            if (daughter >= size) {
                if (root != NONE && sum == leastSum) {
                    noteRow();
                }
                return;
            }
            int left = leastSum - sum - floor[daughter] + (root == NONE ? dearest[daughter] : 0);
            if (left < 0) {
                return;
            }
            if (root == NONE) {
                mothers[daughter] = NONE;
                seek(daughter + 1, daughter, sum);
            }
            for (int i = 0; i < size; i++) {
                int some = steps[i * MOST_TOLD + daughter];
                if (sum + some <= leastSum && !comesOf(i, daughter)) {
                    mothers[daughter] = i;
                    seek(daughter + 1, root, sum + some);
                }
            }
        }

        /** Of those ahead of the other's place alone the MOTHERS are chosen. */
        private boolean comesOf(int one, int other) {
            int now = one;
            for (int i = 0; i < MOST_TOLD && now != NONE && now < other; i++) {
                now = mothers[now];
            }
            return now == other;
        }

        private void noteRow() {
            if (rows == 0) {
                System.arraycopy(mothers, 0, best, 0, size);
            }
            rows++;
        }
    }

    /** CHANCES of what a DISH will be. */
    private static final class Chances {
        private static final long ALL_PARTS = 1000000000000L;

        private final Valley valley;
        private final Scale scale;
        private final Cook cook;
        /** Of full length from the first question on: most valleys are never asked. */
        long[] parts = new long[0];
        private long[] later = new long[0];
        private int start;
        private int times = NONE;
        private int year;
        private int rules;

        Chances(Valley valley, Scale scale, Cook cook) {
            this.valley = valley;
            this.scale = scale;
            this.cook = cook;
        }

        /** Whether there are such CHANCES: they stand in the parts then. */
        boolean work(int rank, int n) {
            if (rank == NONE || n < 0 || n > MOST_CHANCES) {
                return false;
            }
            if (start == rank && times == n && year == valley.year && rules == valley.rules) {
                return true;
            }
            if (parts.length == 0) {
                parts = new long[DISHES];
                later = new long[DISHES];
            }
            start = rank;
            times = n;
            year = valley.year;
            rules = valley.rules;
            scale.open(year);
            Arrays.fill(parts, 0);
            parts[rank] = ALL_PARTS;
            for (int i = 0; i < n; i++) {
                Arrays.fill(later, 0);
                for (int from = 0; from < DISHES; from++) {
                    if (parts[from] > 0) {
                        cook.listAll(from);
                        handOn(from);
                    }
                }
                long[] old = parts;
                parts = later;
                later = old;
            }
            return true;
        }

        private void handOn(int from) {
            if (cook.sum <= 0) {
                later[from] += parts[from];
                return;
            }
            for (int i = 0; i < cook.size; i++) {
                later[cook.made[i]] += parts[from] * cook.weights[i] / cook.sum;
            }
        }

        int likeliest() {
            int best = 0;
            for (int rank = 1; rank < DISHES; rank++) {
                if (parts[rank] > parts[best]) {
                    best = rank;
                }
            }
            return best;
        }
    }
}
