/** Promises 18 to 31: CHANGES, STEPS, WAYS, customs, THE FIRST, LINES, CHANCES, TASTINGS, COPIES, STAND-INS. */
public final class QuestionTest {
    public static void main(String[] args) {
        promise18();
        promise19();
        promise20();
        promise21();
        promise22();
        promise23();
        promise24();
        promise25();
        promise26();
        promise27();
        promise28();
        promise29();
        promise30();
        promise31();
        toldThatWent();
        againInAnotherYear();
        againUnderOtherRules();
        Check.end();
    }

    private static void due(String what, long got, long want) {
        Check.due(what, got, want);
    }

    private static void promise18() {
        DishLines x = new DishLines();
        due("18 out", x.change(123, 0, 1, 99, 0), 13);
        due("18 out of the only one", x.change(6, 0, 0, 0, 0), 0);
        due("18 out behind the end", x.change(123, 0, 3, 0, 0), -1);
        due("18 in ahead", x.change(123, 1, 0, 5, 0), 6123);
        due("18 in the midst", x.change(123, 1, 1, 5, 0), 1623);
        due("18 in at the end", x.change(123, 1, 3, 5, 0), 1236);
        due("18 in behind the end", x.change(123, 1, 4, 5, 0), -1);
        due("18 in with five", x.change(12345, 1, 5, 5, 0), -1);
        due("18 in with four", x.change(1234, 1, 4, 5, 0), 12346);
        due("18 in of no thing", x.change(123, 1, 0, 6, 0), -1);
        due("18 in of none", x.change(123, 1, 0, -1, 0), -1);
        due("18 swap", x.change(12345, 2, 3, 0, 0), 12354);
        due("18 swap at the end", x.change(12345, 2, 4, 0, 0), -1);
        due("18 swap of like ones", x.change(122, 2, 1, 0, 0), -1);
        due("18 double", x.change(1234, 3, 2, 0, 0), 12334);
        due("18 double with five", x.change(12345, 3, 2, 0, 0), -1);
        due("18 double of none", x.change(0, 3, 0, 0, 0), -1);
        due("18 no stand-in", x.change(1234, 4, 2, 0, 0), -1);
        x.put(2, 2, 0);
        due("18 stand", x.change(12345, 4, 2, 0, 0), 12145);
        due("18 stand behind the end", x.change(3, 4, 1, 0, 0), -1);
        due("18 weighs", x.change(3, 4, 0, 0, 1), 1);
        due("18 what 2", x.change(3, 4, 0, 0, 2), -1);
        due("18 what -1", x.change(3, 4, 0, 0, -1), -1);
        due("18 sort 5", x.change(3, 5, 0, 0, 0), -1);
        due("18 sort -1", x.change(3, -1, 0, 0, 0), -1);
        due("18 place -1", x.change(3, 0, -1, 0, 0), -1);
        due("18 place 6", x.change(12345, 0, 6, 0, 0), -1);
        due("18 no dish", x.change(30, 0, 0, 0, 0), -1);
        due("18 no dish below", x.change(-3, 0, 0, 0, 0), -1);
        x.put(2, 1, 0);
        due("18 in of what is not got", x.change(1, 1, 0, 2, 0), -1);
        due("18 in of what is not got: weighs", x.change(1, 1, 0, 2, 1), -1);
        due("18 double of what is not got", x.change(3, 3, 0, 0, 0), -1);
        due("18 out of what is not got", x.change(3, 0, 0, 0, 0), 0);
        due("18 swap of what is not got", x.change(34, 2, 0, 0, 0), 43);
        due("18 stand for what is not got", x.change(3, 4, 0, 0, 0), 1);
        x.put(0, 1, 0);
        due("18 a stand-in that is not got", x.change(3, 4, 0, 0, 0), 1);
        Check.rule(x, "weighs 12 if year = 8;bars if year = 9");
        due("18 in the year of terms", x.change(3, 0, 0, 0, 1), 1);
        x.terms(0, 8);
        due("18 in another", x.change(3, 0, 0, 0, 1), 12);
        x.terms(0, 9);
        due("18 barred", x.change(3, 0, 0, 0, 0), -1);
        due("18 barred: weighs", x.change(3, 0, 0, 0, 1), -1);
    }

    private static void promise19() {
        DishLines x = new DishLines();
        x.put(1, 2, 3);
        int[] all = {2, 1, 112, 212, 312, 412, 512, 612, 112, 122, 132, 142, 152, 162, 121, 122, 123, 124, 125, 126, 21,
            112, 122, 14};
        due("19 how many", x.changes(12, -1), all.length);
        for (int i = 0; i < all.length; i++) {
            due("19 the " + i + "-th", x.changes(12, i), all[i]);
        }
        due("19 no more", x.changes(12, all.length), -1);
        due("19 i -2", x.changes(12, -2), -1);
        due("19 no dish", x.changes(17, -1), -1);
        due("19 five pinches", x.changes(12345, -1), 10);
        due("19 four pinches", x.changes(2222, -1), 4 + 30 + 4 + 4);
        due("19 the most", x.changes(2323, -1), 4 + 30 + 3 + 4 + 2);
        Check.rule(x, "bars if not sort = 0;weighs 0");
        due("19 barred, weighs 0", x.changes(12, -1), 2);
        Check.rule(x, "bars");
        due("19 none", x.changes(12, -1), 0);
        due("19 none: the first", x.changes(12, 0), -1);
    }

    private static void promise20() {
        DishLines x = new DishLines();
        due("20 to itself", x.steps(66666, 66666), 0);
        due("20 all out, all in", x.steps(11111, 22222), 10);
        due("20 doubles do not help more", x.steps(0, 55555), 5);
        due("20 swaps", x.steps(12345, 21354), 2);
        due("20 one moves far", x.steps(12345, 23451), 2);
        due("20 from no dish", x.steps(70, 1), -1);
        due("20 to no dish", x.steps(1, 111111), -1);
        due("20 below", x.steps(-1, 1), -1);
        x.put(0, 2, 1);
        due("20 stand-in", x.steps(11111, 22222), 5);
        due("20 not the other way", x.steps(22222, 11111), 10);
        x.put(0, 1, 0);
        due("20 not got", x.steps(22222, 11111), -1);
        due("20 got rid of", x.steps(1, 0), 1);
        x.put(0, 1, 1);
        Check.rule(x, "bars if sort = 1 and has = 0 and year = 7");
        due("20 in the year of terms", x.steps(2, 23), 1);
        x.terms(0, 7);
        due("20 barred", x.steps(2, 23), -1);
        due("20 by what it has", x.steps(2, 222), 2);
        Check.rule(x, "bars if sort = 1;bars if sort=0 and long > 1;bars if sort=2 and place > 0");
        due("20 down only by one", x.steps(21, 0), -1);
        due("20 a law between", x.steps(123, 213), 1);
        due("20 never reached", x.steps(123, 132), -1);
    }

    private static void promise21() {
        DishLines x = new DishLines();
        due("21 to itself", x.way(5, 5, 0), 5);
        due("21 to itself, no more", x.way(5, 5, 1), -1);
        due("21 0", x.way(11, 33, 0), 11);
        due("21 by the lowest", x.way(11, 33, 1), 1);
        due("21 by the lowest then", x.way(11, 33, 2), 0);
        due("21 by the lowest up", x.way(11, 33, 3), 3);
        due("21 the end", x.way(11, 33, 4), 33);
        due("21 behind the end", x.way(11, 33, 5), -1);
        due("21 i -1", x.way(11, 33, -1), -1);
        due("21 from no dish", x.way(19, 33, 0), -1);
        due("21 to no dish", x.way(11, 0x7fffffff, 0), -1);
        x.put(0, 1, 0);
        due("21 not there: 0", x.way(3, 1, 0), -1);
        Check.rule(x, "bars if sort = 0 and long = 2 and place = 1");
        due("21 another lowest", x.way(23, 5, 1), 3);
        due("21 without a law: lowest", new DishLines().way(23, 5, 1), 2);
    }

    private static void promise22() {
        DishLines x = new DishLines();
        x.house(-1, 5, 12);
        x.house(0, 6, 13);
        x.house(0, 7, 12);
        x.house(0, 8, 12345);
        x.house(0, 9, 21);
        due("22 no mother", x.between(0, -1), -1);
        due("22 no house", x.between(5, -1), -1);
        due("22 house -1", x.between(-1, -1), -1);
        // 12 to 13: 1 (out, in), 123 and 132 (in, out)
        due("22 to 13", x.between(1, -1), 3);
        due("22 to 13: first", x.between(1, 0), 1);
        due("22 to 13: second", x.between(1, 1), 123);
        due("22 to 13: third", x.between(1, 2), 132);
        due("22 to 13: no more", x.between(1, 3), -1);
        due("22 i -2", x.between(1, -2), -1);
        // from 12 and back: 1, 2, 21, and all of three that have 12 within
        due("22 to itself", x.between(2, -1), 3 + 16);
        due("22 to itself: first", x.between(2, 0), 1);
        due("22 three steps", x.between(3, -1), 0);
        due("22 three steps: first", x.between(3, 0), -1);
        // 12 to 21: 1, 2, 121, 212
        due("22 to 21", x.between(4, -1), 4);
        due("22 to 21: last", x.between(4, 3), 212);
        x.put(1, 2, 2);
        x.house(0, 10, 13);
        due("22 kept, and more between", x.between(5, -1), 3);
        Check.rule(x, "bars if sort = 0 and year = 6");
        x.terms(0, 6);
        due("22 in its own year: barred", x.between(1, -1), 0);
        due("22 in its own year: not barred", x.between(5, -1), 3);
    }

    private static void promise23() {
        DishLines x = new DishLines();
        due("23 none: first", x.judge(0), -1);
        due("23 none: how many", x.judge(1), 0);
        x.house(-1, 5, 12);
        x.house(-1, 5, 6543);
        x.house(0, 5, 123);
        due("23 kept", x.judge(0), -1);
        x.house(0, 5, 12);
        due("23 the same dish: not kept", x.judge(0), 3);
        x.house(0, 6, 1233);
        due("23 two", x.judge(1), 2);
        due("23 the first", x.judge(0), 3);
        due("23 what 2", x.judge(2), -1);
        due("23 what -1", x.judge(-1), -1);
        x.put(2, 1, 0);
        due("23 not got now", x.judge(0), 2);
        x.put(2, 1, 1);
        Check.rule(x, "bars if year = 5");
        due("23 barred in its own year", x.judge(0), 2);
        due("23 barred in its own year: how many", x.judge(1), 3);
        Check.rule(x, "bars if year = 0");
        due("23 not in the year of terms", x.judge(1), 2);
    }

    private static void promise24() {
        DishLines x = new DishLines();
        x.house(-1, 50, 3);
        due("24 none", x.poor(-1), 0);
        x.house(-1, 10, 163);
        x.house(-1, 20, 36);
        x.house(-1, 20, 23);
        x.house(-1, 30, 0);
        // THING 0 from 20 on, 30 and 50 too; 5 and 1 from 30 on; 2 is still there in 50
        int[] all = {120, 180, 181, 185, 300, 301, 305};
        due("24 how many", x.poor(-1), all.length);
        for (int i = 0; i < all.length; i++) {
            due("24 the " + i + "-th", x.poor(i), all[i]);
        }
        due("24 no more", x.poor(7), -1);
        due("24 i -2", x.poor(-2), -1);
        x.house(-1, 50, 1);
        due("24 back again", x.poor(-1), 4);
    }

    private interface Asked {
        int of(int bits, int what);
    }

    /** One HOUSE that is not there, alone and with others that are, leaves nothing to be told of any. */
    private static void notThere(String name, Asked asked, int houses, int mostWhat) {
        int all = (1 << houses) - 1;
        for (int what = 0; what <= mostWhat; what++) {
            Check.holds(name + ": all that are, " + what, asked.of(all, what) >= 0);
            for (int house : new int[] {houses, houses + 1, 11, 12, 31}) {
                due(name + ": " + house + " alone, " + what, asked.of(1 << house, what), -1);
                due(name + ": 0 and " + house + ", " + what, asked.of(1 | 1 << house, what), -1);
                due(name + ": all and " + house + ", " + what, asked.of(all | 1 << house, what), -1);
            }
            due(name + ": all bits, " + what, asked.of(-1, what), -1);
            Check.holds(name + ": all that are, again, " + what, asked.of(all, what) >= 0);
        }
    }

    /** Who was there and is no more, and all twelve. */
    private static void toldThatWent() {
        DishLines x = new DishLines();
        x.house(-1, 0, 1);
        x.house(-1, 0, 2);
        due("25 both", x.first(3, 0), 2);
        due("26 both", x.lines(3, 0), 2);
        due("29 both", x.tastings(3, 0), 1);
        x.undo();
        due("25 undone", x.first(3, 0), -1);
        due("26 undone", x.lines(3, 0), -1);
        due("29 undone", x.tastings(3, 0), -1);
        for (int i = 1; i < 12; i++) {
            x.house(-1, 0, 1);
        }
        due("25 twelve", x.first(4095, 2), 1);
        due("25 a thirteenth", x.first(8191, 2), -1);
        due("26 of twelve", x.lines(2049, 3), 0);
        due("26 a thirteenth", x.lines(4097, 1), -1);
        due("29 twelve", x.tastings(4095, 3), 1);
        due("29 a thirteenth", x.tastings(8191, 3), -1);
    }

    private static void promise25() {
        DishLines x = new DishLines();
        due("25 none", x.first(1, 0), -1);
        x.house(-1, 5, 12);
        x.house(-1, 5, 13);
        x.house(-1, 5, 14);
        due("25 none told", x.first(0, 0), -1);
        due("25 one", x.first(1, 0), 0);
        due("25 one: how many", x.first(1, 1), 1);
        due("25 one: which", x.first(1, 2), 12);
        due("25 three", x.first(7, 0), 3);
        due("25 three: how many", x.first(7, 1), 1);
        due("25 three: which", x.first(7, 2), 1);
        due("25 two", x.first(3, 0), 2);
        // 1 and 12, 13, 123, 132
        due("25 two: how many", x.first(3, 1), 5);
        due("25 two: lowest", x.first(3, 2), 1);
        due("25 what 3", x.first(7, 3), -1);
        due("25 what -1", x.first(7, -1), -1);
        notThere("25 not there", x::first, 3, 2);
        x.house(-1, 5, 12);
        due("25 each house counts", x.first(11, 0), 2);
        due("25 each house counts: how many", x.first(11, 1), 1);
        due("25 each house counts: which", x.first(11, 2), 12);
        Check.rule(x, "bars if sort = 1 and year = 4");
        due("25 in the year of terms", x.first(7, 0), 3);
        x.terms(0, 4);
        due("25 in another", x.first(3, 0), 2);
        // 123 and 132 alone have both within, by one OUT each
        due("25 in another: how many", x.first(3, 1), 2);
        due("25 in another: lowest", x.first(3, 2), 123);
        Check.rule(x, "bars");
        due("25 none for two", x.first(3, 0), -1);
        due("25 none for two: how many", x.first(3, 1), -1);
        due("25 still for one", x.first(2, 2), 13);
    }

    private static void promise26() {
        DishLines x = new DishLines();
        due("26 none", x.lines(1, 0), -1);
        x.house(-1, 5, 0);
        x.house(-1, 5, 12);
        x.house(-1, 5, 1);
        x.house(-1, 5, 123);
        due("26 none told", x.lines(0, 0), -1);
        notThere("26 not there", x::lines, 4, 5);
        due("26 one", x.lines(8, 0), 0);
        due("26 one: rows", x.lines(8, 1), 1);
        due("26 one: mother", x.lines(8, 2), 100);
        due("26 one: no more", x.lines(8, 3), -1);
        // 0, 1, 12, 123 in a row: from any of the four on
        due("26 all", x.lines(15, 0), 3);
        due("26 all: rows", x.lines(15, 1), 4);
        due("26 all: of 0", x.lines(15, 2), 100);
        due("26 all: of 1", x.lines(15, 3), 2);
        due("26 all: of 2", x.lines(15, 4), 0);
        due("26 all: of 3", x.lines(15, 5), 1);
        due("26 all: no more", x.lines(15, 6), -1);
        due("26 what -1", x.lines(15, -1), -1);
        due("26 told ones: their numbers", x.lines(14, 3), 1);
        due("26 told ones: first", x.lines(14, 2), 100);
        due("26 told ones: last", x.lines(14, 4), 1);
        x.put(1, 1, 0);
        // 12 and 123 come of none then but of each other: 123 -> 12 -> 1 -> 0
        due("26 one way", x.lines(15, 0), 3);
        due("26 one way: rows", x.lines(15, 1), 2);
        due("26 one way: of 0", x.lines(15, 2), 2);
        due("26 one way: of 1", x.lines(15, 3), 100);
        due("26 one way: of 2", x.lines(15, 4), 1);
        due("26 one way: of 3", x.lines(15, 5), 1);
        x.house(-1, 5, 2);
        x.house(-1, 5, 3);
        due("26 six", x.lines(63, 0) > 0 ? 1 : 0, 1);
        x.house(-1, 5, 4);
        due("26 seven", x.lines(127, 0), -1);
        due("26 seven: rows", x.lines(127, 1), -1);
        due("26 six of seven", x.lines(126, 7) >= 0 ? 1 : 0, 1);
        due("26 six and one not there", x.lines(126 + 128, 0), -1);
        x.undo();
        x.put(1, 1, 1);
        Check.rule(x, "bars if year = 3");
        x.terms(0, 3);
        due("26 none by the year of terms", x.lines(3, 0), -1);
        due("26 none by the year of terms: mother", x.lines(3, 2), -1);
        x.terms(0, 4);
        due("26 by the year of terms", x.lines(3, 0), 2);
    }

    private static void promise27() {
        DishLines x = new DishLines();
        due("27 0", x.odds(12, 12, 0), 1000000000000L);
        due("27 0: another", x.odds(12, 21, 0), 0);
        due("27 1: each of 23", x.odds(12, 21, 1), 1000000000000L / 23);
        due("27 1: three ways to 112", x.odds(12, 112, 1), 3 * (1000000000000L / 23));
        due("27 n -1", x.odds(12, 12, -1), -1);
        due("27 n 4", x.odds(12, 12, 4), -1);
        due("27 no dish", x.odds(18, 12, 1), -1);
        due("27 to no dish", x.odds(12, 18, 1), -1);
        Check.rule(x, "weighs 0;weighs 2 if sort = 0;weighs 5 if sort = 2");
        due("27 by weight: out", x.odds(12, 1, 1), 222222222222L);
        due("27 by weight: swap", x.odds(12, 21, 1), 555555555555L);
        // from 1 (two of 9) and from 2 (two of 9) by OUT alone: all goes
        due("27 twice", x.odds(12, 0, 2), 444444444444L);
        // back by another swap: five of nine, cut twice
        due("27 twice: back", x.odds(12, 12, 2), 555555555555L * 5 / 9);
        // what is empty stays; 1 and 2 of twice: 555555555555 * 2 / 9 each, go the third time
        due("27 three times", x.odds(12, 0, 3), 444444444444L + 2 * (555555555555L * 2 / 9));
        due("27 three times: there", x.odds(12, 21, 3), (555555555555L * 5 / 9) * 5 / 9);
        Check.rule(x, "bars if year = 2");
        due("27 in the year of terms", x.odds(0, 6, 1), 166666666666L);
        x.terms(0, 2);
        due("27 it stays", x.odds(0, 0, 3), 1000000000000L);
        Check.rule(x, "weighs 0");
        due("27 nothing weighs: it stays", x.odds(123, 123, 2), 1000000000000L);
    }

    private static void promise28() {
        DishLines x = new DishLines();
        due("28 0", x.likely(345, 0), 345);
        due("28 three ways, the lowest", x.likely(12, 1), 112);
        due("28 n 4", x.likely(12, 4), -1);
        due("28 n -1", x.likely(12, -1), -1);
        due("28 no dish", x.likely(10, 1), -1);
        Check.rule(x, "weighs 0;weighs 9 if sort = 1 and thing = 4");
        due("28 by weight", x.likely(0, 3), 555);
        Check.rule(x, "bars if year = 2");
        x.terms(0, 2);
        due("28 stays", x.likely(612, 3), 612);
    }

    private static void promise29() {
        DishLines x = new DishLines();
        due("29 none", x.tastings(1, 0), -1);
        x.house(-1, 0, 12);
        x.house(-1, 0, 23);
        x.house(-1, 0, 13);
        x.house(-1, 0, 21);
        x.house(-1, 0, 112);
        due("29 none told", x.tastings(0, 0), -1);
        notThere("29 not there", x::tastings, 5, 3);
        due("29 one", x.tastings(1, 0), 0);
        due("29 one: groups", x.tastings(1, 3), 1);
        due("29 one: ways", x.tastings(1, 2), 1);
        // 12, 23, 13 are told apart by any two of THINGS 0, 1, 2
        due("29 three", x.tastings(7, 0), 2);
        due("29 three: the lowest", x.tastings(7, 1), 3);
        due("29 three: ways", x.tastings(7, 2), 3);
        due("29 three: groups", x.tastings(7, 3), 3);
        due("29 like ones", x.tastings(9, 0), 0);
        due("29 like ones: groups", x.tastings(9, 3), 1);
        due("29 like ones: bits", x.tastings(9, 1), 0);
        // 12, 23, 112 by THING 0 alone: 1, 0, 2
        due("29 how many of it", x.tastings(19, 0), 1);
        due("29 how many of it: bits", x.tastings(19, 1), 1);
        due("29 how many of it: ways", x.tastings(19, 2), 1);
        due("29 how many of it: groups", x.tastings(19, 3), 3);
        // 12 and 13: THING 1 or THING 2
        due("29 the lowest bits", x.tastings(5, 1), 2);
        due("29 the lowest bits: ways", x.tastings(5, 2), 2);
        due("29 what 4", x.tastings(5, 4), -1);
        due("29 what -1", x.tastings(5, -1), -1);
    }

    private static void promise30() {
        DishLines x = new DishLines();
        due("30 none", x.copies(1), 0);
        x.house(-1, 0, 1212);
        x.house(-1, 0, 11);
        x.house(-1, 0, 311);
        x.house(-1, 0, 0);
        x.house(-1, 0, 131);
        due("30 11", x.copies(11), 21);
        due("30 22", x.copies(22), 1);
        due("30 the empty one", x.copies(0), 2);
        due("30 all of it are left out", x.copies(112), 0);
        due("30 itself is no copy", x.copies(1212), 0);
        due("30 3", x.copies(3), 20);
        due("30 no dish", x.copies(70), -1);
        due("30 below", x.copies(-1), -1);
    }

    private static void promise31() {
        DishLines x = new DishLines();
        due("31 all got", x.stood(12345), 12345);
        due("31 the empty one", x.stood(0), 0);
        due("31 no dish", x.stood(20), -1);
        due("31 below", x.stood(-2), -1);
        x.put(0, 2, 1);
        due("31 got: no stand-in is asked", x.stood(131), 131);
        x.put(0, 1, 0);
        due("31 one", x.stood(131), 232);
        x.put(1, 1, 0);
        due("31 by none", x.stood(131), -1);
        due("31 not asked of the others", x.stood(333), 333);
        x.put(1, 2, 2);
        due("31 a chain", x.stood(12), 33);
        x.put(2, 1, 0);
        x.put(2, 2, 0);
        due("31 a ring", x.stood(4321), -1);
        x.put(2, 2, 3);
        x.put(3, 1, 0);
        x.put(3, 2, 4);
        x.put(4, 1, 0);
        x.put(4, 2, 5);
        due("31 the longest chain", x.stood(12345), 66666);
        x.put(5, 1, 0);
        due("31 its end is not got", x.stood(1), -1);
        x.put(5, 2, 3);
        due("31 a ring at its end", x.stood(1), -1);
        due("31 the empty one still", x.stood(0), 0);
    }

    /** What was worked out for one YEAR must not answer for another. */
    private static void againInAnotherYear() {
        DishLines x = new DishLines();
        x.house(-1, 0, 1);
        x.house(-1, 0, 12);
        Check.rule(x, "bars if year = 1 and sort = 1;weighs 0 if year = 2 and sort = 0");
        int[][] want = {{1, 1, 1, 2, 1}, {-1, 1, 1, 1, 1}, {1, 1, 1, 2, 1}};
        for (int round = 0; round < 2; round++) {
            for (int year = 0; year < 3; year++) {
                x.terms(0, year);
                due("20 again, " + year, x.steps(1, 12), want[year][0]);
                due("21 again, " + year, x.way(12, 1, 1), want[year][1]);
                due("25 again, " + year, x.first(3, 0), want[year][2]);
                due("26 again, " + year, x.lines(3, 1), want[year][3]);
                due("27 again, " + year, x.odds(1, 0, 1), new long[] {71428571428L, 500000000000L, 0}[year]);
                due("28 again, " + year, x.likely(1, 1), new int[] {11, 0, 11}[year]);
            }
        }
    }

    /** Nor what was worked out under rules that have gone. */
    private static void againUnderOtherRules() {
        DishLines x = new DishLines();
        x.house(-1, 0, 1);
        x.house(-1, 0, 12);
        x.image(0);
        for (int round = 0; round < 2; round++) {
            due("20 first", x.steps(1, 12), 1);
            due("25 first", x.first(3, 1), 2);
            due("26 first", x.lines(3, 1), 2);
            due("27 first", x.odds(1, 12, 1), 71428571428L);
            x.put(1, 1, 0);
            due("20 not got", x.steps(1, 12), -1);
            due("25 not got", x.first(3, 1), 1);
            due("26 not got", x.lines(3, 3), 100);
            due("27 not got", x.odds(1, 12, 1), 0);
            x.back(0);
            due("20 back", x.steps(1, 12), 1);
            Check.rule(x, "weighs 3 if mood = 2 and thing = 1;bars if sweet = 5");
            due("27 mood 0", x.odds(1, 12, 1), 71428571428L);
            x.terms(1, 2);
            due("27 mood 2", x.odds(1, 12, 1), 166666666666L);
            x.put(1, 0, 5);
            due("27 sweet 5", x.odds(1, 12, 1), 0);
            due("20 sweet 5", x.steps(1, 12), -1);
            x.force(-1);
            due("20 no law", x.steps(1, 12), 1);
            x.house(-1, 0, 1);
            due("25 another house", x.first(7, 1), 1);
            due("26 another house", x.lines(7, 1), 6);
            x.undo();
            x.house(-1, 0, 12);
            due("25 yet another", x.first(7, 2), 12);
            x.back(0);
        }
    }
}
