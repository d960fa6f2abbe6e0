/** Promises 1 to 12 and 32 to 37: THINGS, HOUSES, TERMS, the TAPE, ROWS, LINES, IMAGES, counts. */
public final class StateTest {
    public static void main(String[] args) {
        promise1();
        promise2And3();
        promise4();
        promise5();
        promise5Order();
        promise6();
        promise7();
        promise8();
        promise9And10();
        promise11And12();
        promise32And33();
        promise32Years();
        promise34And35();
        promise36();
        promise37();
        Check.end();
    }

    private static void due(String what, long got, long want) {
        Check.due(what, got, want);
    }

    private static void promise1() {
        DishLines x = new DishLines();
        int[] counts = {0, 0, 0, 0, 0, 0, 0, 0, -1, 0, 0};
        for (int i = 0; i < counts.length; i++) {
            due("1 count(" + i + ")", x.count(i), counts[i]);
        }
        for (int thing = 0; thing < 6; thing++) {
            due("1 sweet", x.of(thing, 0), 0);
            due("1 got", x.of(thing, 1), 1);
            due("1 stand-in", x.of(thing, 2), -1);
        }
        due("1 status", x.status(), 0);
        due("1 fault", x.fault(), -1);
        due("1 stopped", x.stopped(), -1);
        due("1 burnt", x.burnt(), 0);
        due("1 drawn", x.drawn(0), -1);
        due("1 at", x.at(0, 2), -1);
        due("1 poor", x.poor(-1), 0);
        due("1 copies", x.copies(0), 0);
        due("1 undo", x.undo(), -3);
    }

    private static void promise2And3() {
        DishLines x = new DishLines();
        due("2 sweet 9", x.put(5, 0, 9), 0);
        due("2 sweet 0", x.put(5, 0, 0), 9);
        due("2 sweet 10", x.put(5, 0, 10), -1);
        due("2 status of 10", x.status(), -1);
        due("2 sweet -1", x.put(5, 0, -1), -1);
        due("2 got 0", x.put(0, 1, 0), 1);
        due("2 got 1", x.put(0, 1, 1), 0);
        due("2 got 2", x.put(0, 1, 2), -1);
        due("2 got -1", x.put(0, 1, -1), -1);
        due("2 refused so far", x.count(3), 4);
        due("2 stand-in was none", x.put(0, 2, 5), -1);
        due("2 status of none", x.status(), 0);
        due("2 not counted", x.count(3), 4);
        due("2 stand-in was 5", x.put(0, 2, -1), 5);
        due("3 none again", x.of(0, 2), -1);
        due("2 its own", x.put(3, 2, 3), -1);
        due("2 its own: status", x.status(), -1);
        due("2 stand-in 6", x.put(3, 2, 6), -1);
        due("2 stand-in -2", x.put(3, 2, -2), -1);
        due("2 what 3", x.put(3, 3, 0), -1);
        due("2 what -1", x.put(3, -1, 0), -1);
        due("2 thing 6", x.put(6, 0, 0), -1);
        due("2 thing -1", x.put(-1, 0, 0), -1);
        due("2 refused", x.count(3), 11);
        due("2 ring", x.put(1, 2, 2) + x.put(2, 2, 1), -2);
        due("3 of", x.of(2, 2), 1);
        due("3 what 3", x.of(2, 3), -1);
        due("3 what -1", x.of(2, -1), -1);
        due("3 thing 6", x.of(6, 0), -1);
        due("3 thing -1", x.of(-1, 1), -1);
        due("3 status is put's", x.status(), 0);
    }

    private static void promise4() {
        DishLines x = new DishLines();
        due("4 first", x.house(-1, 0, 0), 0);
        due("4 its dish", x.at(0, 2), 0);
        due("4 latest year", x.house(0, 999, 66666), 1);
        due("4 the same year", x.house(1, 999, 1), 2);
        due("4 year 1000", x.house(-1, 1000, 1), -1);
        due("4 year -1", x.house(-1, -1, 1), -1);
        due("4 dish 10", x.house(-1, 1, 10), -1);
        due("4 dish 7", x.house(-1, 1, 7), -1);
        due("4 dish 111111", x.house(-1, 1, 111111), -1);
        due("4 dish -1", x.house(-1, 1, -1), -1);
        due("4 dish 10111", x.house(-1, 1, 10111), -1);
        due("4 mother 3", x.house(3, 1, 1), -2);
        due("4 mother -2", x.house(-2, 1, 1), -2);
        due("4 -1 ahead of -2", x.house(3, 1, 8), -1);
        due("4 year ahead", x.house(1, 998, 1), -3);
        due("4 -2 ahead of -3", x.house(9, 998, 1), -2);
        for (int i = 3; i < 12; i++) {
            due("4 house " + i, x.house(i - 1, 999, 1), i);
        }
        due("4 no room", x.house(-1, 0, 0), -5);
        due("4 status", x.status(), -5);
        due("4 -3 ahead of -5", x.house(1, 0, 0), -3);
        due("4 -2 ahead of -5", x.house(12, 0, 0), -2);
        due("4 -1 ahead of -5", x.house(1, 0, 9), -1);
        due("4 houses", x.count(0), 12);
    }

    private static void promise5() {
        DishLines x = new DishLines();
        x.house(-1, 10, 12);
        x.terms(0, 9);
        due("5 ahead of the mother's year", x.born(0, 0, 0, 0), -3);
        x.terms(0, 10);
        due("5 out", x.born(0, 0, 1, 77), 1);
        due("5 out makes", x.at(1, 2), 1);
        due("5 mother", x.at(1, 0), 0);
        due("5 year", x.at(1, 1), 10);
        due("5 in at the end", x.born(0, 1, 2, 5), 2);
        due("5 in makes", x.at(2, 2), 126);
        due("5 swap", x.born(0, 2, 0, -9), 3);
        due("5 swap makes", x.at(3, 2), 21);
        due("5 double", x.born(0, 3, 1, 0), 4);
        due("5 double makes", x.at(4, 2), 122);
        due("5 no stand-in", x.born(0, 4, 0, 0), -3);
        x.put(0, 2, 3);
        x.put(3, 1, 0);
        due("5 stand for what is not got", x.born(0, 4, 0, 0), 5);
        due("5 stand makes", x.at(5, 2), 42);
        due("5 in of what is not got", x.born(0, 1, 0, 3), -3);
        due("5 double of what is not got", x.born(5, 3, 0, 0), -3);
        due("5 out of what is not got", x.born(5, 0, 0, 0), 6);
        due("5 makes", x.at(6, 2), 2);
        due("5 swap at the last place", x.born(0, 2, 1, 0), -3);
        due("5 out of the empty one", x.born(x.house(-1, 0, 0), 0, 0, 0), -3);
        x.house(-1, 0, 11111);
        due("5 in with five", x.born(8, 1, 0, 1), -3);
        due("5 double with five", x.born(8, 3, 0, 1), -3);
        due("5 swap of like ones", x.born(8, 2, 0, 1), -3);
        due("5 in behind the end", x.born(0, 1, 3, 1), -3);
    }

    private static void promise5Order() {
        DishLines x = new DishLines();
        x.house(-1, 10, 12);
        due("5 sort 5", x.born(0, 5, 0, 0), -1);
        due("5 sort -1", x.born(0, -1, 0, 0), -1);
        due("5 place 6", x.born(0, 0, 6, 0), -1);
        due("5 place 5", x.born(0, 0, 5, 0), -3);
        due("5 place -1", x.born(0, 0, -1, 0), -1);
        due("5 thing -1", x.born(0, 1, 0, -1), -1);
        due("5 -1 ahead of -2", x.born(7, 1, 0, 6), -1);
        due("5 mother none", x.born(-1, 0, 0, 0), -2);
        due("5 -2 ahead of -3", x.born(1, 2, 4, 0), -2);
        for (int i = 1; i < 12; i++) {
            x.house(-1, 0, 1);
        }
        due("5 -3 ahead of -5", x.born(0, 0, 0, 0), -3);
        x.terms(0, 10);
        due("5 no room", x.born(0, 0, 0, 0), -5);
        due("5 refused", x.count(3) * 1000 + x.count(4) * 100 + x.count(5) * 10 + x.count(6), 6221);
        DishLines y = new DishLines();
        y.house(-1, 0, 12);
        Check.rule(y, "bars if year < 5 and sort = 0");
        due("5 barred", y.born(0, 0, 0, 0), -3);
        y.terms(0, 5);
        due("5 barred no more", y.born(0, 0, 0, 0), 1);
    }

    private static void promise6() {
        DishLines x = new DishLines();
        x.house(-1, 5, 123);
        x.house(0, 6, 0);
        due("6 the latest", x.undo(), 0);
        due("6 daughters", x.at(0, 3), 0);
        due("6 status", x.status(), 0);
        due("6 then the first", x.undo(), 123);
        due("6 houses", x.count(0), 0);
        due("6 none", x.undo(), -3);
        due("6 status of none", x.status(), -3);
        due("6 refused", x.count(5), 1);
        due("6 number again", x.house(-1, 1, 1), 0);
        for (int i = 1; i < 12; i++) {
            x.house(-1, 1, 1);
        }
        due("6 full", x.house(-1, 1, 1), -5);
        x.undo();
        due("6 room again", x.house(-1, 1, 1), 11);
    }

    private static void promise7() {
        DishLines x = new DishLines();
        x.house(-1, 1, 12);
        x.house(0, 2, 12);
        x.house(1, 3, 1);
        x.house(2, 4, 12);
        x.house(0, 5, 34);
        x.house(3, 6, 1);
        due("7 mother none", x.at(0, 0), -1);
        due("7 mother", x.at(5, 0), 3);
        due("7 year", x.at(4, 1), 5);
        due("7 dish", x.at(4, 2), 34);
        due("7 daughters", x.at(0, 3), 2);
        due("7 no daughters", x.at(5, 3), 0);
        due("7 steps none", x.at(0, 4), -1);
        due("7 steps 0", x.at(1, 4), 0);
        due("7 steps 1", x.at(2, 4), 1);
        due("7 steps 4", x.at(4, 4), 4);
        due("7 back none", x.at(0, 5), -1);
        due("7 back 1", x.at(1, 5), 1);
        due("7 back 2, the nearest", x.at(3, 5), 2);
        due("7 back 2", x.at(5, 5), 2);
        due("7 not back", x.at(4, 5), -1);
        due("7 what 6", x.at(0, 6), -1);
        due("7 what -1", x.at(0, -1), -1);
        due("7 house 6", x.at(6, 0), -1);
        due("7 house -1", x.at(-1, 1), -1);
        Check.rule(x, "bars if sort = 0 and year = 3");
        due("7 in its own year: barred", x.at(2, 4), -1);
        x.terms(0, 3);
        due("7 in its own year: not barred", x.at(5, 4), 1);
    }

    private static void promise8() {
        DishLines x = new DishLines();
        due("8 year", x.terms(0, 999), 0);
        due("8 year was", x.terms(0, 0), 999);
        due("8 mood", x.terms(1, 9), 0);
        due("8 mood was", x.terms(1, 3), 9);
        due("8 year 1000", x.terms(0, 1000), -1);
        due("8 year -1", x.terms(0, -1), -1);
        due("8 mood 10", x.terms(1, 10), -1);
        due("8 mood -1", x.terms(1, -1), -1);
        due("8 what 2", x.terms(2, 0), -1);
        due("8 what -1", x.terms(-1, 0), -1);
        due("8 status", x.status(), -1);
        due("8 refused", x.count(3), 6);
        due("8 stays", x.count(10), 3);
    }

    private static void promise9And10() {
        DishLines x = new DishLines();
        for (int i = 1; i <= 20; i++) {
            due("9 feed " + i, x.feed(-1, 0, i, 0, 0), 20 * i);
        }
        due("9 full", x.feed(0, 0, 0, 0, 0), -1);
        due("9 still 400", x.count(2), 400);
        due("10 401", x.end(401), -1);
        due("10 -1", x.end(-1), -1);
        due("10 400", x.end(400), 400);
        due("10 381", x.end(381), 381);
        due("9 above 400", x.feed(0, 0, 0, 0, 0), -1);
        due("10 380", x.end(380), 380);
        due("9 up to 400", x.feed(0, 0, 0, 0, 0), 400);
        due("10 nothing", x.end(0), 0);
        due("10 1", x.end(1), -1);
        due("9, 10 are not refused", x.count(3) + x.status(), 0);
        due("9 the highest first", x.feed(0x01020304, 0x05000000, 0x06000000, 0, 0x00000001), 20);
        due("9 row", x.row(), 3);
        due("9 row 0", x.at(0, 2), 12345);
        due("9 row 1", x.at(1, 2), 6);
        due("9 row 2", x.at(2, 2), 1);
        x.feed(0x01020304, 0, 0, 0, 0);
        x.end(2);
        x.feed(0x03000000, 0, 0, 0, 0);
        due("10 goes on behind", x.row(), 1);
        due("10 goes on behind: dish", x.at(3, 2), 123);
    }

    private static void promise11And12() {
        DishLines x = new DishLines();
        due("11 empty", x.row(), -6);
        due("11 status", x.status(), -6);
        x.terms(0, 77);
        Check.bytes(x, 0, 0, 1, 2, 3, 4, 5, 0, 1, 2, 3, 4, 5, 6, 0, 7, 0, 255, 1, 0, 0, 6, 0);
        due("11 two", x.row(), 2);
        due("12 three", x.burnt(), 3);
        due("11 tape", x.count(2), 0);
        due("11 dish", x.at(0, 2), 12345);
        due("11 the last one", x.at(1, 2), 6);
        due("11 mother", x.at(1, 0), -1);
        due("11 year", x.at(1, 1), 77);
        due("11 empty again", x.row(), -6);
        due("12 stays when refused", x.burnt(), 3);
        Check.bytes(x, 0, 0, 0);
        due("11 none but empty ones", x.row(), 0);
        due("12 none", x.burnt(), 0);
        due("11 not refused", x.status(), 0);
        int[] many = new int[26];
        for (int i = 0; i < 26; i++) {
            many[i] = i % 2 == 0 ? 3 : 0;
        }
        Check.bytes(x, many);
        due("11 ten have room", x.row(), 10);
        due("12 three have none", x.burnt(), 3);
        due("11 twelve", x.count(0), 12);
        Check.bytes(x, 1, 2, 49);
        due("11 no digits of a text", x.row(), 0);
        due("12 one", x.burnt(), 1);
        due("11 refused", x.count(7), 2);
    }

    private static void promise32And33() {
        DishLines x = new DishLines();
        x.house(-1, 500, 0);
        due("32 seed -1", x.line(-1, 0, 1), -1);
        due("32 seed 1000001", x.line(1000001, 0, 1), -1);
        due("32 n 0", x.line(0, 0, 0), -1);
        due("32 n 61", x.line(0, 0, 61), -1);
        due("32 house", x.line(0, 1, 1), -2);
        due("32 house -1", x.line(0, -1, 1), -2);
        due("32 -1 ahead of -2", x.line(0, 1, 0), -1);
        due("33 none", x.drawn(0), -1);
        // s = 12345, modulo the 6 INS of the empty one: THING 3
        due("32 one", x.line(0, 0, 1), 4);
        due("33 at first", x.drawn(0), 0);
        due("33 then", x.drawn(1), 4);
        due("33 no more", x.drawn(2), -1);
        due("33 below", x.drawn(-1), -1);
        // then (12345 * 1103 + 12345) % 1000003 = 13628880 % 1000003 = 628841; a DISH of one PINCH has
        // 1 OUT, 12 IN, 1 DOUBLE: 628841 % 14 = 3, the third IN ahead of it: THING 2
        due("32 two", x.line(0, 0, 2), 34);
        due("33 the same first", x.drawn(1), 4);
        due("33 the second", x.drawn(2), 34);
        due("32 refused", x.line(0, 5, 2), -2);
        due("33 stays when refused", x.drawn(2), 34);
        due("32 houses stay", x.count(0), 1);
        x.line(1000000, 0, 60);
        due("33 sixty", x.drawn(60) < 0 ? 1 : 0, 0);
        due("33 not sixty-one", x.drawn(61), -1);
    }

    private static void promise32Years() {
        DishLines x = new DishLines();
        x.house(-1, 0, 1);
        x.terms(0, 997);
        // in 997 nothing weighs, in 998 it is OUT alone, in 999 IN of THING 5 alone
        Check.rule(x, "weighs 0; weighs 3 if year = 998 and sort = 0;"
            + "weighs 7 if year = 999 and sort = 1 and thing = 5");
        due("32 by years", x.line(0, 0, 5), 666);
        due("33 stays", x.drawn(1), 1);
        due("33 out", x.drawn(2), 0);
        due("33 in", x.drawn(3), 6);
        due("33 in again, 999 at most", x.drawn(4), 66);
        Check.rule(x, "weighs 0 if year < 999");
        // of DISH 1: 1 OUT, 12 IN, 1 DOUBLE; 12345 % 14 is 11: the eleventh IN, THING 4 behind it
        due("32 no draw while it stays", x.line(0, 0, 3), 15);
        due("32 year stays", x.count(9), 997);
        Check.rule(x, "bars");
        due("32 all barred", x.line(5, 0, 3), 1);
        due("33 all barred", x.drawn(3), 1);
    }

    private static void promise34And35() {
        DishLines x = new DishLines();
        due("35 not kept", x.back(0), -2);
        due("35 -1", x.back(2), -1);
        due("35 k -1", x.back(-1), -1);
        due("34 -1", x.image(2), -1);
        due("34 k -1", x.image(-1), -1);
        x.put(2, 0, 7);
        x.put(2, 1, 0);
        x.put(2, 2, 4);
        x.house(-1, 3, 45);
        x.terms(0, 8);
        x.terms(1, 6);
        Check.rule(x, "weighs 5");
        due("34 kept", x.image(1), 0);
        x.put(2, 0, 1);
        x.put(2, 1, 1);
        x.put(2, 2, -1);
        x.house(0, 9, 1);
        x.terms(0, 50);
        x.terms(1, 1);
        Check.rule(x, "weighs 9");
        x.line(0, 0, 1);
        int drawn = x.drawn(1);
        Check.law(x, "bars if");
        Check.orders(x, "year 1000");
        Check.bytes(x, 7, 0, 1);
        x.row();
        Check.text(x, "abc");
        due("35 not kept yet", x.back(0), -2);
        due("35 back", x.back(1), 0);
        due("35 sweet", x.of(2, 0), 7);
        due("35 got", x.of(2, 1), 0);
        due("35 stand-in", x.of(2, 2), 4);
        due("35 houses", x.count(0), 1);
        due("35 dish", x.at(0, 2), 45);
        due("35 year", x.count(9), 8);
        due("35 mood", x.count(10), 6);
        due("35 laws", x.count(1), 1);
        due("35 force", x.count(8), 0);
        due("35 weight", x.change(1, 0, 0, 0, 1), 5);
        due("35 not the tape", x.count(2), 3);
        due("35 not the fault", x.fault(), -1);
        due("35 not where orders stopped", x.stopped(), 0);
        due("35 not what was burnt", x.burnt(), 1);
        due("35 not the latest line", x.drawn(1), drawn);
        due("35 not what was refused", x.count(3), 4);
        due("35 images stay", x.back(1), 0);
        x.image(0);
        x.undo();
        due("34 again", x.image(1), 0);
        due("35 the other", x.back(0), 0);
        due("35 the other's houses", x.count(0), 1);
        due("35 the first's", x.back(1), 0);
        due("35 the first's houses", x.count(0), 0);
        x.end(0);
        due("35 a law's number again", Check.law(x, "bars"), 1);
        due("35 the law in force is that of then", x.change(1, 0, 0, 0, 1), 5);
    }

    private static void promise36() {
        DishLines x = new DishLines();
        x.feed(0, 0, 0, 0, 0);
        due("36 bytes", x.count(2), 20);
        x.end(0);
        Check.law(x, "bars");
        due("36 laws", x.count(1), 1);
        due("36 none in force", x.count(8), -1);
        x.force(0);
        due("36 in force", x.count(8), 0);
        x.terms(0, 4);
        x.terms(1, 5);
        due("36 year", x.count(9), 4);
        due("36 mood", x.count(10), 5);
        due("36 what 11", x.count(11), -1);
        due("36 what -1", x.count(-1), -1);
        x.put(9, 9, 9);
        x.image(5);
        x.force(3);
        x.force(-2);
        x.back(1);
        x.undo();
        x.row();
        Check.law(x, "");
        Check.orders(x, "");
        Check.orders(x, "year 1000");
        for (int i = 0; i < 13; i++) {
            x.house(-1, 0, 1);
        }
        int[] want = {2, 3, 2, 1, 3};
        for (int i = 0; i < 5; i++) {
            due("36 refused " + i, x.count(3 + i), want[i]);
        }
        x.at(50, 50);
        x.change(9, 9, 9, 9, 9);
        x.end(-1);
        x.first(0, 0);
        for (int i = 0; i < 5; i++) {
            due("36 none but those of status() count " + i, x.count(3 + i), want[i]);
        }
    }

    private static void promise37() {
        DishLines x = new DishLines();
        x.put(9, 0, 0);
        due("37 put", x.status(), -1);
        x.at(0, 0);
        x.feed(0, 0, 0, 0, 0);
        x.end(50);
        x.count(99);
        x.drawn(7);
        due("37 others do not count", x.status(), -1);
        x.put(0, 0, 0);
        due("37 none", x.status(), 0);
        x.house(4, 0, 0);
        due("37 house", x.status(), -2);
        x.terms(0, 0);
        due("37 terms", x.status(), 0);
        x.born(0, 0, 0, 0);
        due("37 born", x.status(), -2);
        x.image(0);
        due("37 image", x.status(), 0);
        x.undo();
        due("37 undo", x.status(), -3);
        x.row();
        due("37 row", x.status(), 0);
        x.row();
        due("37 row refused", x.status(), -6);
        x.force(-1);
        due("37 force", x.status(), 0);
        x.law();
        due("37 law", x.status(), -6);
        x.back(0);
        due("37 back", x.status(), 0);
        x.orders();
        due("37 orders", x.status(), -6);
        Check.law(x, "bars");
        due("37 law stands", x.status(), 0);
        x.line(0, 0, 1);
        due("37 line", x.status(), -2);
        Check.orders(x, "year 1");
        due("37 orders run", x.status(), 0);
        x.back(1);
        due("37 back refused", x.status(), -2);
    }
}
