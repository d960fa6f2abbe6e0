/** Promises 13 to 17: the two languages, what they FAULT, and how ORDERS are run. */
public final class TextTest {
    private static final int NO_FAULT = -1;

    public static void main(String[] args) {
        promise13();
        promise13Room();
        promise15Law();
        promise15Orders();
        promise15Limits();
        lawWords();
        lawWeights();
        broken();
        tests();
        promise14();
        promise14Words();
        promise14Refused();
        promise16();
        promise17();
        Check.end();
    }

    private static void due(String what, long got, long want) {
        Check.due(what, got, want);
    }

    private static void lawFault(String text, int place) {
        DishLines x = new DishLines();
        due("law of \"" + text + "\"", Check.law(x, text), place == NO_FAULT ? 0 : -6);
        due("fault of law \"" + text + "\"", x.fault(), place);
        due("tape behind law \"" + text + "\"", x.count(2), 0);
    }

    private static void orderFault(String text, int place) {
        DishLines x = new DishLines();
        int answer = Check.orders(x, text);
        due("orders of \"" + text + "\"", answer == -6 ? 1 : 0, place == NO_FAULT ? 0 : 1);
        due("fault of orders \"" + text + "\"", x.fault(), place);
        due("tape behind orders \"" + text + "\"", x.count(2), 0);
    }

    private static void promise13() {
        DishLines x = new DishLines();
        due("13 empty", x.law(), -6);
        due("13 empty: fault", x.fault(), 0);
        due("13 blanks", Check.law(x, "    "), -6);
        due("13 blanks: fault", x.fault(), 4);
        due("13 number", Check.law(x, "bars"), 0);
        due("13 fault gone", x.fault(), -1);
        due("13 next number", Check.law(x, "  weighs 1000   "), 1);
        due("13 tape", x.count(2), 0);
        due("13 not in force", x.count(8), -1);
        due("13 refused", x.count(7), 2);
    }

    private static void promise13Room() {
        DishLines x = new DishLines();
        for (int i = 0; i < 6; i++) {
            due("13 law " + i, Check.law(x, "bars"), i);
        }
        Check.orders(x, "born");
        due("13 fault ahead", x.fault(), 4);
        due("13 no room", Check.law(x, "nonsense"), -5);
        due("13 the tape is empty then", x.count(2), 0);
        due("13 not read", x.fault(), 4);
        due("13 refused", x.count(6), 1);
        due("13 no room for an empty one", x.law(), -5);
        due("13 laws", x.count(1), 6);
    }

    private static void promise15Law() {
        lawFault("bars;bars", NO_FAULT);
        lawFault("bars;", 5);
        lawFault("bars ;  ", 8);
        lawFault(";", 0);
        lawFault("bars bars", 5);
        lawFault("barsif sort=1", 0);
        lawFault("barsz", 0);
        lawFault("bars`", 4);
        lawFault("bars{", 4);
        lawFault("weighs 1:", 8);
        lawFault("weighs 9a", 8);
        lawFault("bars if sort=1", NO_FAULT);
        lawFault("bars if sort", 12);
        lawFault("bars if sort = 1 2", 17);
        lawFault("bars if sort = 1 if", 17);
        lawFault("bars if (sort) = 1", 13);
        lawFault("bars if [sort] = 1", NO_FAULT);
        lawFault("bars if (sort = 1", 17);
        lawFault("bars if (sort = 1]", 17);
        lawFault("bars if [sort) = 1", 13);
        lawFault("bars if (sort = 1) and", 22);
        lawFault("bars if (sort = 1) = 1", 19);
        lawFault("bars if not not(not sort=1)", NO_FAULT);
        lawFault("bars if not", 11);
        lawFault("bars if not 1", 13);
        lawFault("bars if 1 < 2 < 3", 14);
        lawFault("bars if 1 <= 2", 11);
        lawFault("weighs 1000", NO_FAULT);
        lawFault("weighs 1001", 7);
        lawFault("weighs 0001000", NO_FAULT);
        lawFault("weighs 99999999999999999999", 7);
        lawFault("weighs 1+2*3/4%5-6", NO_FAULT);
        lawFault("weighs -1", 7);
        lawFault("weighs 1+-1", 9);
        lawFault("weighs 1 + ", 11);
        lawFault("weighs sort thing", 12);
        lawFault("weighs years", 7);
        lawFault("weighs houses", 7);
        lawFault("weighs long 1", 12);
        lawFault("weighs 3sort", 8);
        lawFault("weighs 3if 1=1", NO_FAULT);
        lawFault("weighs 1 times 2", 9);
        lawFault("Bars", 0);
        lawFault("bars\tif 1=1", 4);
        lawFault("bars" + (char) 0, 4);
        lawFault("bars" + (char) 225, 4);
        lawFault("born 0 out at 0", 0);
        lawFault("weighs if 1=1", 7);
        lawFault("weighs []", 8);
        lawFault("weighs [1", 9);
        lawFault("weighs sort+thing+place+long+has+sweet+year+mood", NO_FAULT);
    }

    private static void promise15Orders() {
        orderFault("year 1", NO_FAULT);
        orderFault("year 1;year 2 times 20", NO_FAULT);
        orderFault("year 1 times 21", 13);
        orderFault("year 1 times 0", 13);
        orderFault("year 1 times years", 13);
        orderFault("year 1 times 020", NO_FAULT);
        orderFault("year 1 if 1 = 1 times 2", 16);
        orderFault("year 1 times 2 times 2", 15);
        orderFault("years 1", 0);
        orderFault("year year", 5);
        orderFault("year sort", 5);
        orderFault("year long 11", NO_FAULT);
        orderFault("year long 12", 10);
        orderFault("year long", 9);
        orderFault("year long [1]", 10);
        orderFault("year has 0 5", NO_FAULT);
        orderFault("year has 0 6", 11);
        orderFault("year has 12 0", 9);
        orderFault("year has 11", 11);
        orderFault("year has 0 0 0", 13);
        orderFault("born 0 out at 0 if houses=0-1", NO_FAULT);
        orderFault("born 0 out 0", 11);
        orderFault("born 0 at 0", 7);
        orderFault("born 0 in 1", 11);
        orderFault("born 0 in 1 at", 14);
        orderFault("born 0 in 1 out at 0", 12);
        orderFault("born 0 swap at 0 ; born 0 double at 1;born 0 stand at 2", NO_FAULT);
        orderFault("born 0 out at 0 out", 16);
        orderFault("born out at 0", 5);
        orderFault("bars", 0);
        orderFault("", 0);
        orderFault("   ", 3);
        DishLines x = new DishLines();
        Check.orders(x, "year 1000");
        due("15 run, though it can't be", x.fault(), -1);
    }

    private static void promise15Limits() {
        lawFault(Check.repeated("bars", ";bars", 11), NO_FAULT);
        lawFault(Check.repeated("bars", ";bars", 12), 60);
        lawFault(Check.repeated("bars", ";bars", 11) + "; )", 61);
        lawFault(Check.repeated("bars", ";bars", 11) + ";  ", 62);
        orderFault(Check.repeated("year 1", ";year 1", 11), NO_FAULT);
        orderFault(Check.repeated("year 1", ";year 1", 12), 84);
        lawFault(Check.repeated("weighs 1", "+1", 49), NO_FAULT);
        lawFault(Check.repeated("weighs 1", "+1", 50), 107);
        lawFault(Check.repeated("weighs 1", "+1", 47) + ";bars if 1=1", NO_FAULT);
        lawFault(Check.repeated("weighs 1", "+1", 48) + ";bars if 1=1", 115);
        lawFault(Check.repeated("weighs 1", "+1", 48) + ";bars if [1]=[[1]]", 119);
        lawFault(Check.repeated("weighs 1", "+1", 49) + "+[", 108);
        lawFault(Check.repeated("weighs 1", "+1", 49) + "+ sort", 108);
        orderFault(Check.repeated("year 1", "+1", 49) + " times 2", NO_FAULT);
        orderFault(Check.repeated("year 1", "+has 1 1", 49), NO_FAULT);
        orderFault(Check.repeated("year 1", "+long 1", 50), 350);
        lawFault("weighs [[[[[[[[1]]]]]]]]", NO_FAULT);
        lawFault("weighs [[[[[[[[[1]]]]]]]]]", 15);
        lawFault("weighs [[[[[[[[1]]]]]]]]+[1]", NO_FAULT);
        lawFault("bars if ((((((([1]=1)))))))", NO_FAULT);
        lawFault("bars if ((((((((1=1))))))))", NO_FAULT);
        lawFault("bars if (((((((((1=1)))))))))", 16);
        lawFault("bars if (((((((([1]=1))))))))", 16);
        lawFault("bars if (((((((1=[[1]])))))))", 18);
        lawFault(Check.repeated("bars if", " not", 96) + " 1=1", NO_FAULT);
        lawFault(Check.repeated("bars if", " not", 98), 399);
        lawFault(Check.repeated("bars", " ", 396), NO_FAULT);
    }

    /** What a CHANGE weighs under a LAW; THING 0 has SWEET 4, THING 1 has SWEET 9, the YEAR is 70, the MOOD 8. */
    private static int weight(String law, int dish, int sort, int place, int thing) {
        DishLines x = new DishLines();
        x.put(0, 0, 4);
        x.put(1, 0, 9);
        x.put(1, 2, 3);
        x.terms(0, 70);
        x.terms(1, 8);
        Check.rule(x, law);
        return x.change(dish, sort, place, thing, 1);
    }

    private static void lawWords() {
        due("sort of OUT", weight("weighs sort", 21, 0, 0, 5), 0);
        due("sort of IN", weight("weighs sort", 21, 1, 0, 5), 1);
        due("sort of SWAP", weight("weighs sort", 21, 2, 0, 5), 2);
        due("sort of DOUBLE", weight("weighs sort", 21, 3, 0, 5), 3);
        due("sort of STAND", weight("weighs sort", 21, 4, 0, 5), 4);
        due("thing of OUT", weight("weighs thing", 12, 0, 1, 5), 1);
        due("thing of IN", weight("weighs thing", 12, 1, 1, 5), 5);
        due("thing of SWAP: at the place", weight("weighs thing", 21, 2, 0, 5), 1);
        due("thing of DOUBLE", weight("weighs thing", 12, 3, 1, 5), 1);
        due("thing of STAND: whose it was", weight("weighs thing", 12, 4, 1, 5), 1);
        due("place", weight("weighs place", 1234, 1, 4, 5), 4);
        due("long of OUT: ahead of it", weight("weighs long", 1234, 0, 1, 5), 4);
        due("long of IN: ahead of it", weight("weighs long", 1234, 1, 1, 5), 4);
        due("has of OUT", weight("weighs has", 1211, 0, 0, 5), 3);
        due("has of IN", weight("weighs has", 1211, 1, 0, 0), 3);
        due("has of IN: none", weight("weighs has", 1211, 1, 0, 3), 0);
        due("has of SWAP", weight("weighs has", 1211, 2, 1, 3), 1);
        due("has of STAND: not of the stand-in", weight("weighs has", 2414, 4, 0, 3), 1);
        due("sweet", weight("weighs sweet", 12, 0, 1, 0), 9);
        due("sweet of IN", weight("weighs sweet", 12, 1, 1, 0), 4);
        due("year", weight("weighs year", 12, 1, 1, 0), 70);
        due("mood", weight("weighs mood", 12, 1, 1, 0), 8);
    }

    private static void lawWeights() {
        due("none", weight("bars if 1 = 2", 12, 0, 0, 0), 1);
        due("the last", weight("weighs 5; weighs 7", 12, 0, 0, 0), 7);
        due("the last that holds", weight("weighs 5; weighs 7 if sort = 1", 12, 0, 0, 0), 5);
        due("above 99", weight("weighs 100", 12, 0, 0, 0), 99);
        due("below 0", weight("weighs 0 - 5", 12, 0, 0, 0), 0);
        due("barred", weight("bars; weighs 5", 12, 0, 0, 0), -1);
        due("barred later", weight("weighs 5; bars if long = 2", 12, 0, 0, 0), -1);
        due("a broken sum does not hold", weight("weighs 5; weighs 7 / 0", 12, 0, 0, 0), 5);
        due("a broken test does not hold", weight("weighs 5; weighs 7 if 1 % 0 = 1", 12, 0, 0, 0), 5);
        due("a broken test does not bar", weight("bars if 1 / 0 = 1", 12, 0, 0, 0), 1);
        due("not of a broken test", weight("bars if not 1 / 0 = 1", 12, 0, 0, 0), 1);
        DishLines x = new DishLines();
        Check.rule(x, "weighs 0");
        due("weighs 0 can be", x.change(12, 0, 0, 0, 0), 2);
        due("weighs 0", x.change(12, 0, 0, 0, 1), 0);
    }

    private static void broken() {
        due("a thousand million", weight("weighs 1000*1000*1000/1000/1000/100", 12, 0, 0, 0), 10);
        due("beyond it", weight("weighs [1000*1000*1000+1]/1000/1000/100", 12, 0, 0, 0), 1);
        due("back from beyond it", weight("weighs 1000*1000*1000+1-1000*1000*1000+5", 12, 0, 0, 0), 1);
        due("the other way", weight("weighs [0-1000*1000*1000]/1000/1000/100+20", 12, 0, 0, 0), 10);
        due("beyond it the other way", weight("weighs [0-1000*1000*1000-1]/1000/1000/100+20", 12, 0, 0, 0), 1);
        due("far beyond it", weight("weighs 1000*1000*1000*1000*1000*1000*1000*1000", 12, 0, 0, 0), 1);
        due("cut towards 0", weight("weighs [0-7]/2+10", 12, 0, 0, 0), 7);
        due("what is left", weight("weighs [0-7]%2+10", 12, 0, 0, 0), 9);
        due("what is left of a negative", weight("weighs 7%[0-2]+10", 12, 0, 0, 0), 11);
        due("from the left", weight("weighs 20-5-3", 12, 0, 0, 0), 12);
        due("terms from the left", weight("weighs 100/7*7%10", 12, 0, 0, 0), 8);
        due("terms ahead of sums", weight("weighs 1+2*3", 12, 0, 0, 0), 7);
        due("brackets", weight("weighs [1+2]*3", 12, 0, 0, 0), 9);
        due("or: so ahead of a broken one", weight("bars if 1=1 or 1/0=1", 12, 0, 0, 0), -1);
        due("or: not so ahead of a broken one", weight("bars if 1=2 or 1/0=1", 12, 0, 0, 0), 1);
        due("or: broken ahead of a so one", weight("bars if 1/0=1 or 1=1", 12, 0, 0, 0), 1);
        due("and: not so ahead of a broken one", weight("bars if not(1=2 and 1/0=1)", 12, 0, 0, 0), -1);
        due("and: so ahead of a broken one", weight("bars if 1=1 and 1/0=1", 12, 0, 0, 0), 1);
        due("and: broken ahead of one that is not so", weight("bars if not(1/0=1 and 1=2)", 12, 0, 0, 0), 1);
        due("broken on the right side", weight("bars if not 1=1/0", 12, 0, 0, 0), 1);
        due("passed over, then so", weight("bars if 1=2 and 1/0=1 or 1=1", 12, 0, 0, 0), -1);
        due("or goes on over two", weight("bars if 1=1 or 1/0=1 or 1/0=1", 12, 0, 0, 0), -1);
    }

    private static void tests() {
        due("less", weight("bars if 1 < 2", 12, 0, 0, 0), -1);
        due("not less", weight("bars if 2 < 2", 12, 0, 0, 0), 1);
        due("more", weight("bars if 3 > 2", 12, 0, 0, 0), -1);
        due("not more", weight("bars if 2 > 2", 12, 0, 0, 0), 1);
        due("and binds first", weight("bars if 1=1 or 1=1 and 1=2", 12, 0, 0, 0), -1);
        due("brackets ahead of and", weight("bars if (1=1 or 1=1) and 1=2", 12, 0, 0, 0), 1);
        due("not binds first of all", weight("bars if not 1=2 and 1=2", 12, 0, 0, 0), 1);
        due("not of a bracket", weight("bars if not (1=2 and 1=2)", 12, 0, 0, 0), -1);
        due("not not", weight("bars if not not 1=1", 12, 0, 0, 0), -1);
    }

    private static void promise14() {
        DishLines x = new DishLines();
        x.house(-1, 3, 12);
        due("14 three times", Check.orders(x, "year years + 5 times 3"), 3);
        due("14 year", x.count(9), 15);
        due("14 tape", x.count(2), 0);
        due("14 if it is so", Check.orders(x, "year years + 1 times 9 if years < 18"), 3);
        due("14 year then", x.count(9), 18);
        due("14 a broken test: not run", Check.orders(x, "year 1000 if 1 / 0 = 1"), 0);
        due("14 not refused", x.status(), 0);
        due("14 a line", Check.orders(x, "born houses-1 in 2 at 0 times 3 ; born 1 out at 2"), 4);
        due("14 first", x.at(1, 2), 312);
        due("14 second", x.at(2, 2), 3312);
        due("14 third", x.at(3, 2), 33312);
        due("14 mother", x.at(3, 0), 2);
        due("14 fourth", x.at(4, 2), 31);
        due("14 fourth's mother", x.at(4, 0), 1);
        due("14 year of birth", x.at(4, 1), 18);
        x.put(1, 2, 5);
        due("14 sorts", Check.orders(x, "born 0 swap at 0;born 0 double at 1;born 0 stand at 1"), 3);
        due("14 swap", x.at(5, 2), 21);
        due("14 double", x.at(6, 2), 122);
        due("14 stand", x.at(7, 2), 16);
    }

    private static void promise14Words() {
        DishLines x = new DishLines();
        x.house(-1, 0, 1232);
        x.house(-1, 0, 0);
        due("14 years", Check.orders(x, "year 5;year years*2;year 0 if not years = 10"), 2);
        due("14 houses", Check.orders(x, "year houses"), 1);
        due("14 houses: year", x.count(9), 2);
        due("14 done", Check.orders(x, "year 1; year 1 if done = 5; year 1; year done * 10"), 3);
        due("14 done: year", x.count(9), 20);
        due("14 last: none", Check.orders(x, "year 0 - last"), 1);
        due("14 last: none, year", x.count(9), 1);
        due("14 last", Check.orders(x, "born 1 in 3 at 0; year last"), 2);
        due("14 last: year", x.count(9), 4);
        due("14 last is of this text", Check.orders(x, "year last + 1"), 1);
        due("14 last is of this text: year", x.count(9), 0);
        x.terms(0, 4);
        due("14 long", Check.orders(x, "year 100 * long 0 + 10 * long 1 + long 2"), 1);
        due("14 long: year", x.count(9), 401);
        due("14 has", Check.orders(x, "year 100 * has 0 1 + 10 * has 0 2 + has 1 0"), 1);
        due("14 has: year", x.count(9), 210);
        due("14 no such house", Check.orders(x, "year 10 + long 3 + has 3 0 + has 11 5"), 1);
        due("14 no such house: year", x.count(9), 7);
        due("14 one just born", Check.orders(x, "born 0 out at 0;year 100 + long 3 + has 3 1 + has 3 0"), 2);
        due("14 one just born: year", x.count(9), 105);
    }

    private static void promise14Refused() {
        DishLines x = new DishLines();
        x.house(-1, 3, 12);
        x.terms(0, 50);
        String[] cannot = {"year 1000", "year 0-1", "year 1/0", "born 2 out at 0", "born 0-1 out at 0", "born 0 out at 6",
            "born 0 out at 2", "born 0 in 6 at 0", "born 0 in 1/0 at 0", "born 0 in 0 at 1%0", "born 1/0 out at 0",
            "born 0 stand at 0", "year 2;born 0 out at 0", "born 1000*1000*1000*5 out at 0"};
        for (String text : cannot) {
            due("14 " + text, Check.orders(x, "born 0 in 0 at 0;year 60;" + text), -3);
            due("14 all as it was: houses, " + text, x.count(0), 1);
            due("14 all as it was: year, " + text, x.count(9), 50);
        }
        due("14 refused", x.count(5), cannot.length);
        due("14 none by others", x.count(3) + x.count(4) + x.count(6), 0);
        due("14 no room", Check.orders(x, "year 51;born 0 in 0 at 0 times 12"), -5);
        due("14 no room: houses", x.count(0), 1);
        due("14 no room: year", x.count(9), 50);
        due("14 status", x.status(), -5);
        due("14 just room", Check.orders(x, "born 0 in 0 at 0 times 11"), 11);
        due("14 can't be ahead of no room", Check.orders(x, "born 0 out at 3"), -3);
        due("14 no room at once", Check.orders(x, "born 0 out at 1"), -5);
        Check.rule(x, "bars if sort = 0");
        due("14 barred", Check.orders(x, "born 0 out at 0"), -3);
        due("14 the tape goes, too", x.count(2), 0);
    }

    private static void promise16() {
        DishLines x = new DishLines();
        Check.orders(x, "year 1;year 2;year 3 * 1000 if years = 2;year 4");
        due("16 third", x.stopped(), 2);
        x.house(-1, 0, 0);
        due("16 stays", x.stopped(), 2);
        Check.law(x, "bars");
        due("16 stays behind a law", x.stopped(), 2);
        Check.orders(x, "born 0 in 0 at 0 times 12");
        due("16 no room", x.stopped(), 0);
        Check.orders(x, "year");
        due("16 not read", x.stopped(), -1);
        Check.orders(x, "year 1;year 1000");
        due("16 second", x.stopped(), 1);
        Check.orders(x, "year 1");
        due("16 none", x.stopped(), -1);
    }

    private static void promise17() {
        DishLines x = new DishLines();
        due("17 none yet", x.force(0), -2);
        due("17 none was", x.force(-1), -1);
        due("17 status", x.status(), 0);
        Check.law(x, "weighs 3");
        Check.law(x, "weighs 4");
        due("17 not by itself", x.change(1, 0, 0, 0, 1), 1);
        due("17 none was in force", x.force(1), -1);
        due("17 weighs", x.change(1, 0, 0, 0, 1), 4);
        due("17 1 was", x.force(0), 1);
        due("17 weighs then", x.change(1, 0, 0, 0, 1), 3);
        due("17 2", x.force(2), -2);
        due("17 -2", x.force(-2), -2);
        due("17 refused", x.count(4), 3);
        due("17 0 was", x.force(-1), 0);
        due("17 weighs 1 again", x.change(1, 0, 0, 0, 1), 1);
    }
}
