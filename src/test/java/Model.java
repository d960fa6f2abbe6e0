import java.util.ArrayDeque;
import java.util.ArrayList;
import java.util.Arrays;
import java.util.HashMap;
import java.util.HashSet;
import java.util.List;
import java.util.Map;
import java.util.Set;
import java.util.TreeSet;

/** The document once more, as plainly as can be and without a thought of speed: DishLines is held against it. */
final class Model {
    private record House(int mother, int year, String dish) {
    }

    private record Made(String dish, int weight) {
    }

    private int[] sweet = new int[6];
    private int[] got = {1, 1, 1, 1, 1, 1};
    private int[] stand = {-1, -1, -1, -1, -1, -1};
    private List<House> houses = new ArrayList<>();
    private List<ModelText> laws = new ArrayList<>();
    private int force = -1;
    private int year = 0;
    private int mood = 0;

    private final Model[] images = new Model[2];
    private final List<Integer> tape = new ArrayList<>();
    private int fault = -1;
    private int burnt = 0;
    private int stopped = -1;
    private List<String> line = new ArrayList<>();
    private int status = 0;
    private final Map<Integer, Integer> refused = new HashMap<>();

    private static final List<String> DISHES = allDishes();
    private static final Map<String, Integer> PLACES = placesOf(DISHES);
    private final Map<Integer, int[][]> graphs = new HashMap<>();

    private static List<String> allDishes() {
        List<String> all = new ArrayList<>(List.of(""));
        for (int from = 0, longest = 0; longest < 5; longest++) {
            int behind = all.size();
            for (; from < behind; from++) {
                for (char c = '1'; c <= '6'; c++) {
                    all.add(all.get(from) + c);
                }
            }
        }
        return all;
    }

    private static Map<String, Integer> placesOf(List<String> all) {
        Map<String, Integer> places = new HashMap<>();
        for (String dish : all) {
            places.put(dish, places.size());
        }
        return places;
    }

    private static String dishOf(int number) {
        if (number == 0) {
            return "";
        }
        String text = Integer.toString(number);
        return text.matches("[1-6]{1,5}") ? text : null;
    }

    private static int numberOf(String dish) {
        return dish == null ? -1 : dish.isEmpty() ? 0 : Integer.parseInt(dish);
    }

    private static int held(String dish, int thing) {
        return (int) dish.chars().filter(c -> c == '1' + thing).count();
    }

    private int done(int answer) {
        status = 0;
        graphs.clear();
        return answer;
    }

    private int refuse(int by) {
        status = by;
        refused.merge(by, 1, Integer::sum);
        return by;
    }

    int put(int thing, int what, int value) {
        if (thing < 0 || thing > 5 || what < 0 || what > 2) {
            return refuse(-1);
        }
        int low = what == 2 ? -1 : 0;
        int high = what == 0 ? 9 : what == 1 ? 1 : 5;
        if (value < low || value > high || what == 2 && value == thing) {
            return refuse(-1);
        }
        int[] row = what == 0 ? sweet : what == 1 ? got : stand;
        int was = row[thing];
        row[thing] = value;
        return done(was);
    }

    int of(int thing, int what) {
        if (thing < 0 || thing > 5 || what < 0 || what > 2) {
            return -1;
        }
        return (what == 0 ? sweet : what == 1 ? got : stand)[thing];
    }

    private boolean there(int house) {
        return house >= 0 && house < houses.size();
    }

    int house(int mother, int inYear, int dish) {
        if (inYear < 0 || inYear > 999 || dishOf(dish) == null) {
            return refuse(-1);
        }
        if (mother != -1 && !there(mother)) {
            return refuse(-2);
        }
        if (mother != -1 && houses.get(mother).year > inYear) {
            return refuse(-3);
        }
        if (houses.size() == 12) {
            return refuse(-5);
        }
        houses.add(new House(mother, inYear, dishOf(dish)));
        return done(houses.size() - 1);
    }

    private int birth(long mother, int sort, long place, long thing) {
        if (sort < 0 || sort > 4 || place < 0 || place > 5 || sort == 1 && (thing < 0 || thing > 5)) {
            return -1;
        }
        if (mother < 0 || mother >= houses.size()) {
            return -2;
        }
        House of = houses.get((int) mother);
        Made made = make(of.dish, sort, (int) place, (int) thing, year);
        if (made == null || year < of.year) {
            return -3;
        }
        if (houses.size() == 12) {
            return -5;
        }
        houses.add(new House((int) mother, year, made.dish));
        return houses.size() - 1;
    }

    int born(int mother, int sort, int place, int thing) {
        int answer = birth(mother, sort, place, thing);
        return answer < 0 ? refuse(answer) : done(answer);
    }

    int undo() {
        if (houses.isEmpty()) {
            return refuse(-3);
        }
        return done(numberOf(houses.remove(houses.size() - 1).dish));
    }

    int at(int house, int what) {
        if (!there(house)) {
            return -1;
        }
        House h = houses.get(house);
        switch (what) {
            case 0: return h.mother;
            case 1: return h.year;
            case 2: return numberOf(h.dish);
            case 3: return (int) houses.stream().filter(other -> other.mother == house).count();
            case 4: return h.mother == -1 ? -1 : distance(houses.get(h.mother).dish, h.dish, h.year);
            case 5:
                int up = 0;
                for (int m = h.mother; m != -1; m = houses.get(m).mother) {
                    up++;
                    if (houses.get(m).dish.equals(h.dish)) {
                        return up;
                    }
                }
                return -1;
            default: return -1;
        }
    }

    int terms(int what, int value) {
        if (what < 0 || what > 1 || value < 0 || value > (what == 0 ? 999 : 9)) {
            return refuse(-1);
        }
        int was = what == 0 ? year : mood;
        if (what == 0) {
            year = value;
        } else {
            mood = value;
        }
        return done(was);
    }

    int feed(int... five) {
        if (tape.size() + 20 > 400) {
            return -1;
        }
        for (int number : five) {
            for (int i = 3; i >= 0; i--) {
                tape.add(number >>> 8 * i & 255);
            }
        }
        return tape.size();
    }

    /** A single byte, which only tests can bring. */
    void append(char sign) {
        tape.add((int) sign);
    }

    int end(int n) {
        if (n < 0 || n > tape.size()) {
            return -1;
        }
        tape.subList(n, tape.size()).clear();
        return n;
    }

    int row() {
        if (tape.isEmpty()) {
            return refuse(-6);
        }
        StringBuilder signs = new StringBuilder();
        for (int b : tape) {
            signs.append(b == 0 ? ' ' : b <= 6 ? (char) ('0' + b) : 'x');
        }
        tape.clear();
        burnt = 0;
        int came = 0;
        for (String dish : signs.toString().split(" ")) {
            if (dish.isEmpty()) {
                continue;
            }
            if (dish.length() > 5 || dish.contains("x") || houses.size() == 12) {
                burnt++;
            } else {
                houses.add(new House(-1, year, dish));
                came++;
            }
        }
        return done(came);
    }

    int burnt() {
        return burnt;
    }

    private ModelText read(boolean asOrders) {
        StringBuilder signs = new StringBuilder();
        for (int b : tape) {
            signs.append((char) b);
        }
        tape.clear();
        ModelText text = new ModelText(signs.toString(), asOrders);
        fault = text.fault;
        return text;
    }

    int law() {
        if (laws.size() == 6) {
            tape.clear();
            return refuse(-5);
        }
        ModelText text = read(false);
        if (text.fault != -1) {
            return refuse(-6);
        }
        laws.add(text);
        return done(laws.size() - 1);
    }

    int orders() {
        ModelText text = read(true);
        stopped = -1;
        if (text.fault != -1) {
            return refuse(-6);
        }
        List<House> housesBefore = new ArrayList<>(houses);
        int yearBefore = year;
        int[] run = {0, -1};
        ModelText.Words words = name -> wordOfOrders(name, run);
        for (int i = 0; i < text.clauses.size(); i++) {
            ModelText.Clause clause = text.clauses.get(i);
            for (int t = 0; t < clause.times; t++) {
                if (!clause.isSo(words)) {
                    continue;
                }
                int answer = runOnce(clause, words, run);
                if (answer < 0) {
                    houses = housesBefore;
                    year = yearBefore;
                    stopped = i;
                    return refuse(answer == -5 ? -5 : -3);
                }
                run[0]++;
            }
        }
        return done(run[0]);
    }

    private int runOnce(ModelText.Clause clause, ModelText.Words words, int[] run) {
        try {
            long told = clause.sum.value(words);
            if (clause.head.equals("year")) {
                if (told < 0 || told > 999) {
                    return -3;
                }
                year = (int) told;
                return 0;
            }
            long thing = clause.thing == null ? 0 : clause.thing.value(words);
            long place = clause.place.value(words);
            int sort = List.of("out", "in", "swap", "double", "stand").indexOf(clause.how);
            int answer = birth(told, sort, place, thing);
            if (answer >= 0) {
                run[1] = numberOf(houses.get(answer).dish);
            }
            return answer;
        } catch (ModelText.Broken broken) {
            return -3;
        }
    }

    private long wordOfOrders(String name, int[] run) {
        String[] parts = name.split(" ");
        switch (parts[0]) {
            case "years": return year;
            case "houses": return houses.size();
            case "done": return run[0];
            case "last": return run[1];
            case "long":
                int h = Integer.parseInt(parts[1]);
                return there(h) ? houses.get(h).dish.length() : -1;
            default:
                int house = Integer.parseInt(parts[1]);
                return there(house) ? held(houses.get(house).dish, Integer.parseInt(parts[2])) : -1;
        }
    }

    int fault() {
        return fault;
    }

    int stopped() {
        return stopped;
    }

    int force(int law) {
        if (law < -1 || law >= laws.size()) {
            return refuse(-2);
        }
        int was = force;
        force = law;
        return done(was);
    }

    /** What a CHANGE makes and weighs; null if it can't be. */
    private Made make(String dish, int sort, int place, int thing, int inYear) {
        int n = dish.length();
        boolean whole = sort == 1 ? place <= n && n <= 4 : place < n;
        if (place < 0 || !whole) {
            return null;
        }
        char sign = sort == 1 ? (char) ('1' + thing) : dish.charAt(place);
        int whose = sign - '1';
        String ahead = dish.substring(0, place);
        String behind = sort == 1 ? dish.substring(place) : dish.substring(place + 1);
        String to;
        switch (sort) {
            case 0:
                to = ahead + behind;
                break;
            case 1:
                to = ahead + sign + behind;
                break;
            case 2:
                if (behind.isEmpty() || behind.charAt(0) == sign) {
                    return null;
                }
                to = ahead + behind.charAt(0) + sign + behind.substring(1);
                break;
            case 3:
                if (n > 4) {
                    return null;
                }
                to = ahead + sign + sign + behind;
                break;
            default:
                if (stand[whose] == -1) {
                    return null;
                }
                to = ahead + (stand[whose] + 1) + behind;
                break;
        }
        if ((sort == 1 || sort == 3) && got[whose] == 0) {
            return null;
        }
        int weight = weigh(Map.of("sort", sort, "thing", whose, "place", place, "long", n, "has", held(dish, whose),
            "sweet", sweet[whose], "year", inYear, "mood", mood));
        return weight == -1 ? null : new Made(to, weight);
    }

    private int weigh(Map<String, Integer> asked) {
        int weight = 1;
        boolean barred = false;
        ModelText.Words words = name -> asked.get(name);
        if (force != -1) {
            for (ModelText.Clause clause : laws.get(force).clauses) {
                if (!clause.isSo(words)) {
                    continue;
                }
                if (clause.head.equals("bars")) {
                    barred = true;
                    continue;
                }
                try {
                    weight = (int) Math.max(0, Math.min(99, clause.sum.value(words)));
                } catch (ModelText.Broken broken) {
                    continue;
                }
            }
        }
        return barred ? -1 : weight;
    }

    private List<Made> all(String dish, int inYear) {
        List<Made> made = new ArrayList<>();
        for (int sort = 0; sort < 5; sort++) {
            for (int place = 0; place <= 5; place++) {
                for (int thing = 0; thing < (sort == 1 ? 6 : 1); thing++) {
                    Made one = make(dish, sort, place, thing, inYear);
                    if (one != null) {
                        made.add(one);
                    }
                }
            }
        }
        return made;
    }

    int change(int dish, int sort, int place, int thing, int what) {
        if (dishOf(dish) == null || sort < 0 || sort > 4 || place < 0 || place > 5 || what < 0 || what > 1
            || sort == 1 && (thing < 0 || thing > 5)) {
            return -1;
        }
        Made made = make(dishOf(dish), sort, place, thing, year);
        return made == null ? -1 : what == 0 ? numberOf(made.dish) : made.weight;
    }

    int changes(int dish, int i) {
        if (dishOf(dish) == null) {
            return -1;
        }
        List<Made> made = all(dishOf(dish), year);
        return i == -1 ? made.size() : i >= 0 && i < made.size() ? numberOf(made.get(i).dish) : -1;
    }

    /** For each DISH those that one CHANGE makes of it. */
    private int[][] graph(int inYear) {
        return graphs.computeIfAbsent(inYear, y -> {
            int[][] graph = new int[DISHES.size()][];
            for (int i = 0; i < graph.length; i++) {
                graph[i] = all(DISHES.get(i), y).stream().mapToInt(made -> PLACES.get(made.dish)).toArray();
            }
            return graph;
        });
    }

    /** STEPS from one DISH to each. */
    private int[] distances(String from, int inYear) {
        int[][] graph = graph(inYear);
        int[] far = new int[graph.length];
        Arrays.fill(far, -1);
        ArrayDeque<Integer> queue = new ArrayDeque<>();
        far[PLACES.get(from)] = 0;
        queue.add(PLACES.get(from));
        while (!queue.isEmpty()) {
            int one = queue.poll();
            for (int next : graph[one]) {
                if (far[next] == -1) {
                    far[next] = far[one] + 1;
                    queue.add(next);
                }
            }
        }
        return far;
    }

    private int distance(String from, String to, int inYear) {
        return distances(from, inYear)[PLACES.get(to)];
    }

    int steps(int from, int to) {
        return dishOf(from) == null || dishOf(to) == null ? -1 : distance(dishOf(from), dishOf(to), year);
    }

    int way(int from, int to, int i) {
        if (steps(from, to) == -1 || i < 0) {
            return -1;
        }
        String now = dishOf(from);
        int left = steps(from, to);
        if (i > left) {
            return -1;
        }
        for (int turn = 0; turn < i; turn++) {
            left--;
            TreeSet<Integer> numbers = new TreeSet<>();
            for (Made made : all(now, year)) {
                numbers.add(numberOf(made.dish));
            }
            for (int number : numbers) {
                if (distance(dishOf(number), dishOf(to), year) == left) {
                    now = dishOf(number);
                    break;
                }
            }
        }
        return numberOf(now);
    }

    int between(int house, int i) {
        if (!there(house) || houses.get(house).mother == -1) {
            return -1;
        }
        House h = houses.get(house);
        TreeSet<Integer> numbers = new TreeSet<>();
        for (Made first : all(houses.get(h.mother).dish, h.year)) {
            for (Made second : all(first.dish, h.year)) {
                if (second.dish.equals(h.dish)) {
                    numbers.add(numberOf(first.dish));
                }
            }
        }
        List<Integer> rising = new ArrayList<>(numbers);
        return i == -1 ? rising.size() : i >= 0 && i < rising.size() ? rising.get(i) : -1;
    }

    int judge(int what) {
        List<Integer> not = new ArrayList<>();
        for (int i = 0; i < houses.size(); i++) {
            House h = houses.get(i);
            if (h.mother != -1
                && all(houses.get(h.mother).dish, h.year).stream().noneMatch(made -> made.dish.equals(h.dish))) {
                not.add(i);
            }
        }
        return what == 1 ? not.size() : what == 0 && !not.isEmpty() ? not.get(0) : -1;
    }

    int poor(int i) {
        TreeSet<Integer> found = new TreeSet<>();
        for (House of : houses) {
            for (int thing = 0; thing < 6; thing++) {
                boolean later = false;
                boolean earlier = false;
                for (House h : houses) {
                    boolean has = held(h.dish, thing) > 0;
                    later |= has && h.year >= of.year;
                    earlier |= has && h.year < of.year;
                }
                if (earlier && !later) {
                    found.add(of.year * 6 + thing);
                }
            }
        }
        List<Integer> rising = new ArrayList<>(found);
        return i == -1 ? rising.size() : i >= 0 && i < rising.size() ? rising.get(i) : -1;
    }

    /** Empty if none is told, or one that is not there. */
    private List<Integer> told(int bits) {
        List<Integer> told = new ArrayList<>();
        for (int i = 0; i < 32; i++) {
            if ((bits >> i & 1) == 1) {
                told.add(i);
            }
        }
        return told.stream().allMatch(i -> i < houses.size()) ? told : List.of();
    }

    int first(int bits, int what) {
        List<Integer> told = told(bits);
        if (told.isEmpty()) {
            return -1;
        }
        List<List<Integer>> backwards = new ArrayList<>();
        int[][] graph = graph(year);
        for (int i = 0; i < graph.length; i++) {
            backwards.add(new ArrayList<>());
        }
        for (int i = 0; i < graph.length; i++) {
            for (int to : graph[i]) {
                backwards.get(to).add(i);
            }
        }
        long[] sums = new long[graph.length];
        for (int house : told) {
            int[] far = new int[graph.length];
            Arrays.fill(far, -1);
            ArrayDeque<Integer> queue = new ArrayDeque<>(List.of(PLACES.get(houses.get(house).dish)));
            far[queue.peek()] = 0;
            while (!queue.isEmpty()) {
                int one = queue.poll();
                for (int next : backwards.get(one)) {
                    if (far[next] == -1) {
                        far[next] = far[one] + 1;
                        queue.add(next);
                    }
                }
            }
            for (int i = 0; i < far.length; i++) {
                sums[i] += far[i] == -1 ? 1000000 : far[i];
            }
        }
        long least = Arrays.stream(sums).min().getAsLong();
        if (least >= 1000000) {
            return -1;
        }
        List<Integer> such = new ArrayList<>();
        for (int i = 0; i < sums.length; i++) {
            if (sums[i] == least) {
                such.add(numberOf(DISHES.get(i)));
            }
        }
        such.sort(null);
        return what == 0 ? (int) least : what == 1 ? such.size() : what == 2 ? such.get(0) : -1;
    }

    int lines(int bits, int what) {
        List<Integer> told = told(bits);
        int n = told.size();
        if (n == 0 || n > 6) {
            return -1;
        }
        int[][] far = new int[n][n];
        for (int i = 0; i < n; i++) {
            int[] from = distances(houses.get(told.get(i)).dish, year);
            for (int j = 0; j < n; j++) {
                far[i][j] = from[PLACES.get(houses.get(told.get(j)).dish)];
            }
        }
        int least = Integer.MAX_VALUE;
        int rows = 0;
        int[] best = null;
        int all = (int) Math.pow(n + 1, n);
        // counted up with the first HOUSE's MOTHER as the highest digit: in order as rows
        for (int code = 0; code < all; code++) {
            int[] mother = new int[n];
            int rest = code;
            for (int i = n - 1; i >= 0; i--) {
                mother[i] = rest % (n + 1) - 1;
                rest /= n + 1;
            }
            int sum = sumOf(mother, far);
            if (sum == -1 || sum > least) {
                continue;
            }
            if (sum < least) {
                least = sum;
                rows = 0;
                best = mother;
            }
            rows++;
        }
        if (best == null || what < 0 || what > n + 1) {
            return -1;
        }
        return what == 0 ? least : what == 1 ? rows : best[what - 2] == -1 ? 100 : told.get(best[what - 2]);
    }

    private static int sumOf(int[] mother, int[][] far) {
        int none = 0;
        int sum = 0;
        for (int i = 0; i < mother.length; i++) {
            if (mother[i] == -1) {
                none++;
                continue;
            }
            if (mother[i] == i || far[mother[i]][i] == -1) {
                return -1;
            }
            sum += far[mother[i]][i];
            Set<Integer> line = new HashSet<>();
            for (int up = i; up != -1; up = mother[up]) {
                if (!line.add(up)) {
                    return -1;
                }
            }
        }
        return none == 1 ? sum : -1;
    }

    private Map<String, Long> chances(String dish, int n) {
        Map<String, Long> now = new HashMap<>(Map.of(dish, 1000000000000L));
        for (int i = 0; i < n; i++) {
            Map<String, Long> later = new HashMap<>();
            for (Map.Entry<String, Long> entry : now.entrySet()) {
                List<Made> made = all(entry.getKey(), year);
                made.removeIf(one -> one.weight == 0);
                long sum = made.stream().mapToLong(Made::weight).sum();
                if (made.isEmpty()) {
                    later.merge(entry.getKey(), entry.getValue(), Long::sum);
                }
                for (Made one : made) {
                    later.merge(one.dish, entry.getValue() * one.weight / sum, Long::sum);
                }
            }
            now = later;
        }
        return now;
    }

    long odds(int dish, int to, int n) {
        if (dishOf(dish) == null || dishOf(to) == null || n < 0 || n > 3) {
            return -1;
        }
        return chances(dishOf(dish), n).getOrDefault(dishOf(to), 0L);
    }

    int likely(int dish, int n) {
        if (dishOf(dish) == null || n < 0 || n > 3) {
            return -1;
        }
        long most = -1;
        int best = -1;
        for (Map.Entry<String, Long> entry : chances(dishOf(dish), n).entrySet()) {
            int number = numberOf(entry.getKey());
            if (entry.getValue() > most || entry.getValue() == most && number < best) {
                most = entry.getValue();
                best = number;
            }
        }
        return best;
    }

    int tastings(int bits, int what) {
        List<Integer> told = told(bits);
        if (told.isEmpty()) {
            return -1;
        }
        int[] groups = new int[64];
        for (int set = 0; set < 64; set++) {
            Set<String> seen = new HashSet<>();
            for (int house : told) {
                StringBuilder tells = new StringBuilder();
                for (int thing = 0; thing < 6; thing++) {
                    if ((set >> thing & 1) == 1) {
                        tells.append(held(houses.get(house).dish, thing)).append(' ');
                    }
                }
                seen.add(tells.toString());
            }
            groups[set] = seen.size();
        }
        for (int size = 0; size <= 6; size++) {
            List<Integer> sets = new ArrayList<>();
            for (int set = 0; set < 64; set++) {
                if (Integer.bitCount(set) == size && groups[set] == groups[63]) {
                    sets.add(set);
                }
            }
            if (!sets.isEmpty()) {
                return what == 0 ? size : what == 1 ? sets.get(0) : what == 2 ? sets.size() : what == 3 ? groups[63] : -1;
            }
        }
        return -1;
    }

    int copies(int dish) {
        if (dishOf(dish) == null) {
            return -1;
        }
        int bits = 0;
        for (int i = 0; i < houses.size(); i++) {
            String of = houses.get(i).dish;
            for (char c = '1'; c <= '6'; c++) {
                String left = of.replace(String.valueOf(c), "");
                if (!left.equals(of) && left.equals(dishOf(dish))) {
                    bits |= 1 << i;
                }
            }
        }
        return bits;
    }

    int stood(int dish) {
        if (dishOf(dish) == null) {
            return -1;
        }
        StringBuilder to = new StringBuilder();
        for (char c : dishOf(dish).toCharArray()) {
            int thing = c - '1';
            Set<Integer> seen = new HashSet<>();
            while (thing != -1 && got[thing] == 0) {
                thing = seen.add(thing) ? stand[thing] : -1;
            }
            if (thing == -1) {
                return -1;
            }
            to.append(thing + 1);
        }
        return numberOf(to.toString());
    }

    int line(int seed, int house, int n) {
        if (seed < 0 || seed > 1000000 || n < 1 || n > 60) {
            return refuse(-1);
        }
        if (!there(house)) {
            return refuse(-2);
        }
        long s = seed;
        line = new ArrayList<>(List.of(houses.get(house).dish));
        for (int i = 0; i < n; i++) {
            String now = line.get(i);
            List<Made> made = all(now, Math.min(999, year + i));
            long sum = made.stream().mapToLong(Made::weight).sum();
            if (sum > 0) {
                s = (s * 1103 + 12345) % 1000003;
                long draw = s % sum;
                for (Made one : made) {
                    if (draw < one.weight) {
                        now = one.dish;
                        break;
                    }
                    draw -= one.weight;
                }
            }
            line.add(now);
        }
        return done(numberOf(line.get(n)));
    }

    int drawn(int i) {
        return i >= 0 && i < line.size() ? numberOf(line.get(i)) : -1;
    }

    private void take(Model other) {
        sweet = other.sweet.clone();
        got = other.got.clone();
        stand = other.stand.clone();
        houses = new ArrayList<>(other.houses);
        laws = new ArrayList<>(other.laws);
        force = other.force;
        year = other.year;
        mood = other.mood;
    }

    int image(int k) {
        if (k < 0 || k > 1) {
            return refuse(-1);
        }
        images[k] = new Model();
        images[k].take(this);
        return done(0);
    }

    int back(int k) {
        if (k < 0 || k > 1) {
            return refuse(-1);
        }
        if (images[k] == null) {
            return refuse(-2);
        }
        take(images[k]);
        return done(0);
    }

    int count(int what) {
        switch (what) {
            case 0: return houses.size();
            case 1: return laws.size();
            case 2: return tape.size();
            case 3: return refused.getOrDefault(-1, 0);
            case 4: return refused.getOrDefault(-2, 0);
            case 5: return refused.getOrDefault(-3, 0);
            case 6: return refused.getOrDefault(-5, 0);
            case 7: return refused.getOrDefault(-6, 0);
            case 8: return force;
            case 9: return year;
            case 10: return mood;
            default: return -1;
        }
    }

    int status() {
        return status;
    }
}
