import java.util.Random;

/** Runs of calls by chance (always the same ones), each answer held against the Model's. */
public final class ModelTest {
    private static final int[] DISHES = {0, 1, 2, 3, 6, 11, 12, 21, 23, 123, 132, 321, 112, 1234, 1243, 4321, 12345, 54321,
        11111, 11223, 66666, 665, 4455};

    private final Random random;
    private final DishLines x = new DishLines();
    private final Model y = new Model();
    private final int run;
    /** Asked for again and again, so that an old answer kept too long would be seen. */
    private final int pet;
    private final int petGoal;
    private final int petBits;
    private String told = "";

    private ModelTest(int run) {
        this.run = run;
        this.random = new Random(run * 7919L + 17);
        this.pet = dish();
        this.petGoal = dish();
        this.petBits = below(31);
    }

    public static void main(String[] args) {
        int from = args.length > 0 ? Integer.parseInt(args[0]) : 0;
        int behind = args.length > 1 ? Integer.parseInt(args[1]) : 120;
        for (int run = from; run < behind; run++) {
            new ModelTest(run).play();
        }
        Check.end();
    }

    private void same(String call, long got, long want) {
        told = call;
        Check.due("run " + run + ": " + call, got, want);
    }

    private int below(int n) {
        return random.nextInt(n);
    }

    private boolean seldom(int of) {
        return below(of) == 0;
    }

    /** Mostly from low to high, now and then a bit or far beside that. */
    private int number(int low, int high) {
        if (seldom(25)) {
            return seldom(2) ? random.nextInt() : low - 2 + below(high - low + 5);
        }
        return low + below(Math.max(0, high - low) + 1);
    }

    private int dish() {
        if (seldom(30)) {
            return seldom(2) ? random.nextInt() : below(200000);
        }
        if (seldom(3)) {
            return DISHES[below(DISHES.length)];
        }
        int number = 0;
        for (int i = below(6); i > 0; i--) {
            number = number * 10 + 1 + below(seldom(3) ? 6 : 3);
        }
        return number;
    }

    private int year() {
        return seldom(4) ? number(0, 999) : number(0, 12);
    }

    /** Mostly of HOUSES that are there, now and then with others among them. */
    private int bits() {
        int there = below(1 << x.count(0));
        if (seldom(6)) {
            return seldom(2) ? random.nextInt() : there | 1 << below(32);
        }
        return there;
    }

    private int petBitsNow() {
        return seldom(4) ? petBits : petBits & (1 << x.count(0)) - 1;
    }

    private void play() {
        int length = 40 + below(160);
        // the heavy questions are asked seldom: the Model is slow
        int heavy = run % 10 == 0 ? 40 : 6;
        for (int i = 0; i < length; i++) {
            int kind = below(100);
            if (kind < 52) {
                mutate(below(14));
                look();
            } else if (kind < 92 || heavy == 0) {
                ask(below(13));
            } else {
                heavy--;
                askHeavily(below(6));
            }
        }
        for (int what = -1; what <= 11; what++) {
            same("count(" + what + ")", x.count(what), y.count(what));
        }
    }

    private void look() {
        String call = told;
        same(call + " status()", x.status(), y.status());
        for (int what = 0; what < 11; what++) {
            same(call + " count(" + what + ")", x.count(what), y.count(what));
        }
        same(call + " fault()", x.fault(), y.fault());
        same(call + " stopped()", x.stopped(), y.stopped());
        same(call + " burnt()", x.burnt(), y.burnt());
    }

    private void mutate(int kind) {
        switch (kind) {
            case 0:
                put(number(0, 5), number(0, 2));
                break;
            case 1:
            case 2:
                int mother = number(-1, x.count(0) - 1);
                int year = year();
                int dish = dish();
                same("house(" + mother + ", " + year + ", " + dish + ")", x.house(mother, year, dish),
                    y.house(mother, year, dish));
                break;
            case 3:
            case 4:
                int of = number(0, x.count(0));
                int sort = number(0, 4);
                int place = number(0, 4);
                int thing = number(0, 5);
                same("born(" + of + ", " + sort + ", " + place + ", " + thing + ")", x.born(of, sort, place, thing),
                    y.born(of, sort, place, thing));
                break;
            case 5:
                if (seldom(2)) {
                    same("undo()", x.undo(), y.undo());
                }
                break;
            case 6:
                int what = number(0, 1);
                int value = what == 0 ? year() : number(0, 9);
                same("terms(" + what + ", " + value + ")", x.terms(what, value), y.terms(what, value));
                break;
            case 7:
                row();
                break;
            case 8:
            case 9:
                String law = new ModelTexts(random, false).text();
                write(law);
                same("law() of " + law, x.law(), y.law());
                force(x.count(1) - 1);
                break;
            case 10:
                String orders = new ModelTexts(random, true).text();
                write(orders);
                same("orders() of " + orders, x.orders(), y.orders());
                break;
            case 11:
                force(number(-1, x.count(1) - 1));
                break;
            case 12:
                int k = number(0, 1);
                same("image(" + k + ")", x.image(k), y.image(k));
                break;
            default:
                int b = number(0, 1);
                same("back(" + b + ")", x.back(b), y.back(b));
                break;
        }
    }

    private void put(int thing, int what) {
        int value = what == 0 ? number(0, 9) : what == 1 ? number(0, 1) : number(-1, 5);
        same("put(" + thing + ", " + what + ", " + value + ")", x.put(thing, what, value), y.put(thing, what, value));
    }

    private void force(int law) {
        same("force(" + law + ")", x.force(law), y.force(law));
    }

    private void feed(int[] five) {
        same("feed", x.feed(five[0], five[1], five[2], five[3], five[4]), y.feed(five));
    }

    private void write(String text) {
        int before = x.count(2);
        for (int i = 0; i < text.length(); i += 20) {
            int[] five = new int[5];
            for (int j = 0; j < 20 && i + j < text.length(); j++) {
                five[j / 4] |= text.charAt(i + j) << 24 - 8 * (j % 4);
            }
            feed(five);
        }
        int n = before + text.length();
        same("end(" + n + ")", x.end(n), y.end(n));
    }

    private void row() {
        int[] five = new int[5];
        for (int i = 0; i < 20; i++) {
            int value = seldom(40) ? below(256) : seldom(3) ? 0 : 1 + below(6);
            five[i / 4] |= value << 8 * (i % 4);
        }
        feed(five);
        int n = number(0, 20);
        same("end(" + n + ")", x.end(n), y.end(n));
        if (!seldom(5)) {
            same("row()", x.row(), y.row());
        }
    }

    private void ask(int kind) {
        int dish = seldom(3) ? pet : dish();
        int i = seldom(3) ? -1 : number(-1, 12);
        int bits = bits();
        int n = number(0, 2);
        switch (kind) {
            case 0:
                same("of(" + n + ", " + i + ")", x.of(n, i), y.of(n, i));
                break;
            case 1:
                int house = number(0, x.count(0));
                int what = seldom(2) ? 5 : number(0, 3);
                if (what != 4) {
                    same("at(" + house + ", " + what + ")", x.at(house, what), y.at(house, what));
                }
                break;
            case 2:
                int sort = number(0, 4);
                int place = number(0, 5);
                int thing = number(0, 5);
                int which = number(0, 1);
                same("change(" + dish + ", " + sort + ", " + place + ", " + thing + ", " + which + ")",
                    x.change(dish, sort, place, thing, which), y.change(dish, sort, place, thing, which));
                break;
            case 3:
                int at = seldom(2) ? i : number(0, 45);
                same("changes(" + dish + ", " + at + ")", x.changes(dish, at), y.changes(dish, at));
                break;
            case 4:
                int of = number(0, x.count(0));
                same("between(" + of + ", " + i + ")", x.between(of, i), y.between(of, i));
                break;
            case 5:
                same("judge(" + n + ")", x.judge(n), y.judge(n));
                break;
            case 6:
                same("poor(" + i + ")", x.poor(i), y.poor(i));
                break;
            case 7:
                int made = Math.max(1, x.changes(dish, -1));
                int to = seldom(3) ? petGoal : Math.max(0, x.changes(dish, below(made)));
                same("odds(" + dish + ", " + to + ", " + n + ")", x.odds(dish, to, n), y.odds(dish, to, n));
                break;
            case 8:
                same("likely(" + dish + ", " + n + ")", x.likely(dish, n), y.likely(dish, n));
                break;
            case 9:
                int asked = number(0, 3);
                same("tastings(" + bits + ", " + asked + ")", x.tastings(bits, asked), y.tastings(bits, asked));
                break;
            case 10:
                same("copies(" + dish + ")", x.copies(dish), y.copies(dish));
                break;
            case 11:
                same("stood(" + dish + ")", x.stood(dish), y.stood(dish));
                break;
            default:
                line();
                break;
        }
    }

    private void line() {
        int seed = number(0, 1000000);
        int house = number(0, x.count(0));
        int n = number(1, 60);
        same("line(" + seed + ", " + house + ", " + n + ")", x.line(seed, house, n), y.line(seed, house, n));
        for (int i = -1; i <= 61; i++) {
            same("drawn(" + i + ")", x.drawn(i), y.drawn(i));
        }
    }

    private void askHeavily(int kind) {
        boolean again = seldom(2);
        int dish = again ? pet : dish();
        int to = again ? petGoal : dish();
        int bits = again ? petBitsNow() : bits();
        switch (kind) {
            case 0:
                same("steps(" + dish + ", " + to + ")", x.steps(dish, to), y.steps(dish, to));
                break;
            case 1:
                for (int i = -1; i < 5; i++) {
                    same("way(" + dish + ", " + to + ", " + i + ")", x.way(dish, to, i), y.way(dish, to, i));
                }
                break;
            case 2:
                int house = number(0, x.count(0));
                same("at(" + house + ", 4)", x.at(house, 4), y.at(house, 4));
                break;
            case 3:
                for (int what = -1; what < 4; what++) {
                    same("first(" + bits + ", " + what + ")", x.first(bits, what), y.first(bits, what));
                }
                break;
            case 4:
                for (int what = -1; what < 9; what++) {
                    same("lines(" + bits + ", " + what + ")", x.lines(bits, what), y.lines(bits, what));
                }
                break;
            default:
                same("odds(" + dish + ", " + to + ", 3)", x.odds(dish, to, 3), y.odds(dish, to, 3));
                same("likely(" + dish + ", 3)", x.likely(dish, 3), y.likely(dish, 3));
                break;
        }
    }
}
