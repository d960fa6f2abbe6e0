/**
 * The document's sentences that name a limit, each with what lies just within, just beyond and far beyond it:
 * Terms II, promises 13 to 17.
 */
public final class EdgeTextTest {
    private static final int GOOD = -1;
    private static final String MILLIARD = "1000*1000*1000";

    public static void main(String[] args) {
        wholeTape();
        tokens();
        blanks();
        clauses();
        faultAtTheEnd();
        faultOfTheLatest();
        numbers();
        parts();
        brackets();
        grammar();
        grammarOfOrders();
        wordsOfOneLanguage();
        sixLaws();
        force();
        sums();
        sumsOfEdges();
        divisions();
        brokenTests();
        weights();
        words();
        barred();
        times();
        housesAndThingsOfOrders();
        bornByOrders();
        yearsByOrders();
        wordsOfOrders();
        ifOfOrders();
        allAsItWas();
        stopped();
        mostOrders();
        Check.end();
    }

    private static void due(String what, long got, long want) {
        Check.due(what, got, want);
    }

    private static void lawFault(String text, int place) {
        DishLines x = new DishLines();
        Check.text(x, text);
        due("length of \"" + text + "\"", x.count(2), text.length());
        if (place == GOOD) {
            due("law \"" + text + "\"", x.law(), 0);
            due("status of law \"" + text + "\"", x.status(), 0);
        } else {
            Check.refusedText("law \"" + text + "\"", x, -6, DishLines::law);
        }
        due("fault of law \"" + text + "\"", x.fault(), place);
        due("tape behind law \"" + text + "\"", x.count(2), 0);
        due("laws behind \"" + text + "\"", x.count(1), place == GOOD ? 1 : 0);
    }

    private static void orderFault(String text, int place) {
        DishLines x = new DishLines();
        Check.text(x, text);
        if (place == GOOD) {
            Check.holds("orders \"" + text + "\"", x.orders() != -6);
        } else {
            Check.refusedText("orders \"" + text + "\"", x, -6, DishLines::orders);
        }
        due("fault of orders \"" + text + "\"", x.fault(), place);
        due("tape behind orders \"" + text + "\"", x.count(2), 0);
    }

    private static String filled(String text, int length) {
        return Check.repeated(text, " ", length - text.length());
    }

    /** TEXTS are on a TAPE of at most 400 bytes. */
    private static void wholeTape() {
        lawFault("", 0);
        orderFault("", 0);
        lawFault(filled("bars", 400), GOOD);
        lawFault(filled("", 396) + "bars", GOOD);
        lawFault(filled("", 397) + "bar", 397);
        lawFault(filled("", 400), 400);
        orderFault(filled("", 400), 400);
        orderFault(filled("year", 399) + "1", GOOD);
        orderFault(filled("year 1", 399) + "1", 399);
        lawFault(Check.repeated("", "b", 400), 0);
        lawFault(Check.repeated("weighs ", "1", 393), 7);
        lawFault(Check.repeated("weighs ", "0", 393), GOOD);
        lawFault(Check.repeated("weighs ", "0", 389) + "1000", GOOD);
        lawFault(Check.repeated("weighs ", "0", 389) + "1001", 7);
        lawFault(Check.repeated("", ";", 400), 0);
        lawFault(Check.repeated("bars if ", "(", 392), 16);
        lawFault(Check.repeated("bars if ", "not ", 98), 400);
        lawFault(Check.repeated("bars if ", "not ", 96) + "1=1", GOOD);
    }

    /** Longest rows of letters a .. z, of digits, single other bytes. */
    private static void tokens() {
        lawFault("barsbars", 0);
        lawFault("bar s", 0);
        lawFault("weighs1", GOOD);
        lawFault("weighs1if1=1", GOOD);
        lawFault("weighs1iff1=1", 7);
        lawFault("weighs 1 0", 9);
        lawFault("weighs 1sort", 8);
        lawFault("weighs sort1", 11);
        lawFault("weighs so rt", 7);
        lawFault("barsif1=1", 0);
        lawFault("bars if1=1", GOOD);
        lawFault("bars;bars if(1<2)and not 3>4", GOOD);
        lawFault("bars if(1<2)andnot 3>4", 12);
        // the neighbours of a, z, 0, 9 and of A, Z
        for (char sign : new char[] {'`', '{', '/', ':', '@', 'A', 'Z', '_', '!', '~', 127, 128, 160, 225, 255}) {
            lawFault("bars" + sign, 4);
            lawFault(sign + "bars", 0);
        }
        lawFault("BARS", 0);
        lawFault("barS", 0);
        lawFault("weighs 1" + (char) 178, 8);
    }

    /** Any blanks (32) between: no other bytes, and none needed. */
    private static void blanks() {
        lawFault("  bars   if   1   =   1  ;   bars   ", GOOD);
        lawFault("bars if[1+2]*3=9", GOOD);
        for (char sign : new char[] {0, 9, 10, 13, 31, 33, 160}) {
            lawFault("bars " + sign + "if 1=1", 5);
            lawFault("" + sign, 0);
            lawFault("bars" + sign, 4);
        }
        lawFault(" ", 1);
        lawFault("   x", 3);
        orderFault("year  5  ;  born  0  out  at  0  times  2  if  1  =  1", GOOD);
        orderFault("year5;born0out at0times2if1=1", GOOD);
    }

    /** CLAUSE {";" CLAUSE}, 12 at most (FAULT at the 13th's first TOKEN). */
    private static void clauses() {
        for (int some = 1; some <= 12; some++) {
            lawFault(Check.repeated("bars", ";bars", some - 1), GOOD);
            orderFault(Check.repeated("year 0", ";year 0", some - 1), GOOD);
        }
        lawFault(Check.repeated("bars", "; bars", 12), 62 + 8 + 2);
        lawFault(Check.repeated("bars", "; bars", 13), 72);
        lawFault(Check.repeated("bars", "; bars", 11) + ";  nonsense", 73);
        lawFault(Check.repeated("bars", "; bars", 11) + ";", 71);
        lawFault(Check.repeated("bars", "; bars", 11) + ";;", 71);
        orderFault(Check.repeated("year 0", ";year 0", 12), 84);
        orderFault(Check.repeated("year 0", ";year 0", 11) + " ; 5", 86);
        lawFault(";bars", 0);
        lawFault("bars;;bars", 5);
        lawFault("bars,bars", 4);
        orderFault(";", 0);
        orderFault("year 1;;year 1", 7);
    }

    /** FAULT: the first TOKEN that can't go on there (the end's: the TEXT's length). */
    private static void faultAtTheEnd() {
        String[] laws = {"", " ", "weighs", "weighs ", "weighs 1+", "weighs [", "weighs [1", "weighs 1;", "bars if",
            "bars if not", "bars if (", "bars if (1=1", "bars if 1", "bars if 1=", "bars if 1=1 or", "bars if 1=1 and  "};
        for (String law : laws) {
            lawFault(law, law.length());
        }
        String[] orders = {"", "year", "year ", "born", "born 0", "born 0 out", "born 0 out at", "born 0 in",
            "born 0 in 1", "born 0 in 1 at ", "year 1 times", "year 1 if", "year 1 times 1 if", "year long", "year has",
            "year has 0", "year 1;"};
        for (String text : orders) {
            orderFault(text, text.length());
        }
        lawFault("  weighs  x", 10);
        lawFault("weighs ) ( x", 7);
        lawFault("bars if 1=1 )", 12);
        lawFault("bars if (1=1))", 13);
        lawFault("weighs 1]", 8);
    }

    /** FAULT of the latest law(), orders() that read a TEXT: NONE without. */
    private static void faultOfTheLatest() {
        DishLines x = new DishLines();
        due("15 ahead of any", x.fault(), -1);
        Check.law(x, "weighs");
        due("15 of a law", x.fault(), 6);
        Check.orders(x, "year 1");
        due("15 orders without", x.fault(), -1);
        Check.orders(x, "year");
        due("15 of orders", x.fault(), 4);
        Check.law(x, "bars");
        due("15 a law without", x.fault(), -1);
        Check.orders(x, " x");
        Check.orders(x, "year 1000");
        due("15 orders that could not be", x.fault(), -1);
        for (int i = 1; i < 6; i++) {
            Check.law(x, "bars");
        }
        Check.orders(x, "  x");
        Check.text(x, "bars");
        Check.refusedText("13 no room", x, -5, DishLines::law);
        due("15 not read: the one ahead", x.fault(), 2);
        due("13 not read: the tape is empty", x.count(2), 0);
        Check.refusedText("13 no room for nothing", x, -5, DishLines::law);
        due("15 still the one ahead", x.fault(), 2);
        x.row();
        x.feed(0, 0, 0, 0, 0);
        x.end(0);
        due("15 others do not matter", x.fault(), 2);
        Check.refusedText("14 nothing", x, -6, DishLines::orders);
        due("15 of nothing", x.fault(), 0);
    }

    /** NUMBER (to 1,000). */
    private static void numbers() {
        for (String number : new String[] {"0", "1", "999", "1000", "0000", "01000", "0000000001000"}) {
            lawFault("weighs " + number, GOOD);
            orderFault("year 1 if " + number + "=1", GOOD);
        }
        for (String number : new String[] {"1001", "01001", "2000", "9999", "10000", "65537", "99999999", "2147483648",
            "4294967296", "4294967297", "9223372036854775808", "18446744073709551617"}) {
            lawFault("weighs " + number, 7);
            lawFault("weighs 1+[" + number + "]", 10);
            orderFault("year 1 if 1=" + number, 12);
            orderFault("year 1 times " + number, 13);
            orderFault("year long " + number, 10);
            orderFault("year has 1 " + number, 11);
        }
        lawFault("weighs -1", 7);
        lawFault("weighs +1", 7);
        lawFault("weighs 1.5", 8);
    }

    /** 50 PARTS that are NUMBERS and words (FAULT at the 51st): of the whole TEXT. */
    private static void parts() {
        lawFault(Check.repeated("weighs 1", "+2", 49), GOOD);
        lawFault(Check.repeated("weighs 1", "+2", 50), 107);
        lawFault(Check.repeated("weighs 1", "*2", 50), 107);
        lawFault(Check.repeated("weighs 1", "*2", 51), 107);
        lawFault(Check.repeated("weighs has", "-has", 49), GOOD);
        lawFault(Check.repeated("weighs has", "-has", 50), 207);
        // brackets are none, nor is what stands for nothing
        lawFault(Check.repeated("weighs [1]", "+[2]", 49), GOOD);
        lawFault(Check.repeated("weighs [1]", "+[2]", 50), 208);
        lawFault(Check.repeated("weighs 1", "+2", 49) + "+)", 107);
        lawFault(Check.repeated("weighs 1", "+2", 49) + "+nonsense", 107);
        lawFault(Check.repeated("weighs 1", "+2", 49) + "+", 107);
        lawFault(Check.repeated("weighs 1", "+2", 49) + ")", 106);
        lawFault(Check.repeated("weighs 1", "+2", 49) + ";bars", GOOD);
        lawFault(Check.repeated("weighs 1", "+2", 49) + " if 1=1", 110);
        lawFault(Check.repeated("weighs 1", "+2", 47) + " if 1=1", GOOD);
        lawFault(Check.repeated("weighs 1", "+2", 48) + " if 1=1", 110);
        // each of twelve CLAUSES has a part of the fifty
        lawFault(Check.repeated("weighs 1+2+3+4", ";weighs 1+2+3+4", 11), GOOD);
        lawFault(Check.repeated("weighs 1+2+3+4+5+6", ";weighs 1+2+3+4", 11), GOOD);
        lawFault(Check.repeated("weighs 1+2+3+4+5+6", ";weighs 1+2+3+4", 10) + ";weighs 1+2+3+4+5", 18 + 150 + 16);
        String born = "born 1 in 2 at 3";
        // three PARTS each; TIMES, H and T are none
        orderFault(Check.repeated(born + " times 2", ";" + born + " times 2", 11) + " if long 3 = has 3 4", GOOD);
        orderFault("year 1" + Check.repeated("", "+1", 47) + " times 20 if has 1 1=long 1", GOOD);
        orderFault("year 1" + Check.repeated("", "+1", 48) + " times 20 if has 1 1=long 1", 6 + 96 + 21);
        orderFault(Check.repeated("year long 11", "+has 0 5", 44), GOOD);
        orderFault("year done" + Check.repeated("", "+last", 50), 9 + 245 + 1);
    }

    /** 8 brackets of both kinds within one another (FAULT at the 9th). */
    private static void brackets() {
        for (int some = 1; some <= 8; some++) {
            lawFault(Check.repeated("weighs ", "[", some) + Check.repeated("1", "]", some), GOOD);
            lawFault(Check.repeated("bars if ", "(", some) + Check.repeated("1=1", ")", some), GOOD);
            // both kinds: the square ones within the round ones
            lawFault(Check.repeated(Check.repeated("bars if ", "(", 8 - some), "[", some)
                + Check.repeated(Check.repeated("1", "]", some) + "=1", ")", 8 - some), GOOD);
            lawFault(Check.repeated(Check.repeated("bars if ", "(", 8 - some), "[", some + 1)
                + Check.repeated(Check.repeated("1", "]", some + 1) + "=1", ")", 8 - some), 16);
            lawFault(Check.repeated(Check.repeated("bars if ", "(", 8 - some) + "1=", "[", some + 1)
                + Check.repeated(Check.repeated("1", "]", some + 1), ")", 8 - some), 18);
        }
        lawFault(Check.repeated("weighs ", "[", 9) + Check.repeated("1", "]", 9), 15);
        lawFault(Check.repeated("weighs ", "[ ", 9), 7 + 16);
        lawFault(Check.repeated("bars if ", "(", 9) + Check.repeated("1=1", ")", 9), 16);
        lawFault(Check.repeated("bars if ", "not(", 9), 8 + 32 + 3);
        // one behind another they are not within one another
        lawFault(Check.repeated("weighs [[[[[[[[1]]]]]]]]", "+[[[[[[[[1]]]]]]]]", 9), GOOD);
        lawFault("bars if ((((((((1=1)))))))) or ((((((((1=1))))))))", GOOD);
        lawFault("bars if ((((((((1=1)))))))) or (((((((((1=1)))))))))", 8 + 19 + 4 + 8);
        lawFault("bars if (1=1", 12);
        lawFault("bars if ((((((((1=1)))))))", 26);
        lawFault("weighs [[1]", 11);
        lawFault("weighs (1)", 7);
        lawFault("bars if [1=1]", 10);
        lawFault("bars if (1)=1", 10);
        orderFault("year [[[[[[[[1]]]]]]]]", GOOD);
        orderFault("year [[[[[[[[[1]]]]]]]]]", 13);
        orderFault("born [[[[[[[[0]]]]]]]] in [[[[[[[[0]]]]]]]] at [[[[[[[[0]]]]]]]]", GOOD);
    }

    private static void grammar() {
        lawFault("bars 1", 5);
        lawFault("bars if", 7);
        lawFault("weighs if 1=1", 7);
        lawFault("weighs 1 if 1=1 if 1=1", 16);
        lawFault("bars if 1=1 and or 1=1", 16);
        lawFault("bars if or 1=1", 8);
        lawFault("bars if and", 8);
        lawFault("bars if 1=1 not 1=1", 12);
        lawFault("bars if 1=1 and not not not 1=1", GOOD);
        lawFault("bars if 1==1", 10);
        lawFault("bars if 1<>1", 10);
        lawFault("bars if 1=1=1", 11);
        lawFault("bars if 1=1+", 12);
        lawFault("weighs 1+*2", 9);
        lawFault("weighs 1 2", 9);
        for (String sign : new String[] {"+", "-", "*", "/", "%"}) {
            lawFault("weighs 1" + sign, 9);
            lawFault("weighs 1" + sign + ";bars", 9);
            lawFault("weighs 1" + sign + " if 1=1", 10);
            lawFault("weighs [1" + sign + "]", 10);
            lawFault("weighs " + sign + "1", 7);
            lawFault("bars if 1" + sign + "=1", 10);
            lawFault("bars if 1=1" + sign + sign, 12);
            lawFault("bars if 1" + sign + "1=1" + sign + "1", GOOD);
        }
        for (String sign : new String[] {"<", ">", "="}) {
            lawFault("weighs 1" + sign + "1", 8);
            lawFault("weighs [1" + sign + "1]", 9);
            lawFault("bars if " + sign + "1", 8);
            lawFault("bars if 1" + sign, 10);
            lawFault("bars if 1" + sign + "1", GOOD);
        }
        lawFault("weighs []", 8);
        lawFault("weighs [1][2]", 10);
        lawFault("weighs 1 weighs 1", 9);
        lawFault("if 1=1", 0);
        lawFault("bars if 1=1;weighs", 18);
        lawFault("bars times 2", 5);
    }

    private static void grammarOfOrders() {
        String[] hows = {"out", "swap", "double", "stand"};
        for (String how : hows) {
            orderFault("born 0 " + how + " at 0", GOOD);
            orderFault("born 0 " + how + " 1 at 0", 8 + how.length());
            orderFault("born 0 " + how, 7 + how.length());
        }
        orderFault("born 0 in 1 at 0", GOOD);
        orderFault("born 0 in at 0", 10);
        for (String how : new String[] {"sort", "not", "year", "weighs", "stands", "outs", "i", "0", "in0"}) {
            boolean goesOn = how.equals("in0");
            orderFault("born 0 " + how + " at 0", goesOn ? GOOD : 7);
        }
        orderFault("born 0 in 1", 11);
        orderFault("born 0 if 1=1", 7);
        orderFault("born 0 times 1", 7);
        orderFault("year 1 at 0", 7);
        orderFault("year 1 out at 0", 7);
        orderFault("year 1 times 2 if 1=1", GOOD);
        orderFault("year 1 if 1=1 times 2", 14);
        orderFault("year 1 times 1+1", 14);
        orderFault("year 1 times [1]", 13);
        orderFault("year 1 times done", 13);
        orderFault("year 1 year 1", 7);
        orderFault("weighs 1", 0);
        orderFault("bars", 0);
    }

    /** Words of the other language are none. */
    private static void wordsOfOneLanguage() {
        for (String word : new String[] {"sort", "thing", "place", "long", "has", "sweet", "year", "mood"}) {
            lawFault("weighs " + word, GOOD);
            if (!word.equals("long") && !word.equals("has")) {
                orderFault("year " + word, 5);
            }
        }
        for (String word : new String[] {"years", "houses", "done", "last"}) {
            orderFault("year " + word, GOOD);
            lawFault("weighs " + word, 7);
        }
        for (String word : new String[] {"out", "in", "at", "times", "if", "or", "and", "not", "born", "bars", "weighs",
            "dish", "none", "longs", "ha", "h", "t"}) {
            orderFault("year " + word, 5);
            lawFault("weighs " + word, 7);
        }
        lawFault("weighs long 0", 12);
        lawFault("weighs has 0 0", 11);
    }

    /** LAWS, 6 at most. */
    private static void sixLaws() {
        DishLines x = new DishLines();
        for (int i = 0; i < 6; i++) {
            Check.text(x, "weighs");
            Check.refusedText("13 no law", x, -6, DishLines::law);
            due("13 law " + i, Check.law(x, "weighs " + (10 + i)), i);
            due("36 laws", x.count(1), i + 1);
        }
        Check.text(x, "weighs 20");
        Check.refusedText("13 a seventh", x, -5, DishLines::law);
        due("13 a seventh: the tape is empty", x.count(2), 0);
        Check.text(x, "weighs");
        Check.refusedText("13 a seventh that is none", x, -5, DishLines::law);
        due("36 six", x.count(1), 6);
        for (int i = 5; i >= 0; i--) {
            x.force(i);
            due("17 law " + i, x.change(1, 0, 0, 0, 1), 10 + i);
        }
    }

    /** One is in FORCE (NONE at first): -2 there is no such LAW. */
    private static void force() {
        DishLines x = new DishLines();
        Check.refused("17 none yet", x, -2, y -> y.force(0));
        due("17 none, none was", x.force(-1), -1);
        due("17 none: status", x.status(), 0);
        Check.law(x, "weighs 7");
        due("36 none in force", x.count(8), -1);
        due("17 the first", x.force(0), -1);
        for (int law : new int[] {-2, 1, 5, 6}) {
            Check.refused("17 law " + law, x, -2, y -> y.force(law));
        }
        for (int far : Check.FAR) {
            Check.refused("17 law " + far, x, -2, y -> y.force(far));
        }
        due("17 the same", x.force(0), 0);
        due("17 none again", x.force(-1), 0);
        for (int i = 1; i < 6; i++) {
            Check.law(x, "bars");
        }
        due("17 the last", x.force(5), -1);
        Check.refused("17 a seventh", x, -2, y -> y.force(6));
        due("36 the last", x.count(8), 5);
    }

    /** What OUT of DISH 1 weighs under a LAW. */
    private static int weight(String law) {
        DishLines x = new DishLines();
        Check.rule(x, law);
        return x.change(1, 0, 0, 0, 1);
    }

    /** What a SUM is, told by 50 and it; 1, if it is BROKEN. */
    private static int sum(String sum) {
        return weight("weighs 50+" + sum);
    }

    private static void sums() {
        due("1+2*3", sum("1+2*3"), 57);
        due("[1+2]*3", sum("[1+2]*3"), 59);
        due("9-3-2", sum("9-3-2"), 54);
        due("9-[3-2]", sum("9-[3-2]"), 58);
        due("24/4/3", sum("24/4/3"), 52);
        due("24/[4/3]", sum("24/[4/3]"), 74);
        due("24/4*3", sum("24/4*3"), 68);
        due("7%4*2", sum("7%4*2"), 56);
        due("2*7%4", sum("2*7%4"), 52);
        due("0-0", sum("0-0"), 50);
        due("0-50", sum("0-50"), 0);
        due("0-49", sum("0-49"), 1);
        due("48", sum("48"), 98);
        due("49", sum("49"), 99);
        due("50", sum("50"), 99);
    }

    /** Beyond 1,000,000,000 either way a SUM is BROKEN. */
    private static void sumsOfEdges() {
        due("a milliard", weight("weighs [" + MILLIARD + "]/1000/1000/100"), 10);
        due("a milliard and 1", weight("weighs [" + MILLIARD + "+1]/1000/1000/100"), 1);
        due("a milliard, 1 less and 1", weight("weighs [" + MILLIARD + "-1+1]/1000/1000/100"), 10);
        due("minus a milliard", weight("weighs [0-" + MILLIARD + "]/1000/1000/100+60"), 50);
        due("minus a milliard and 1", weight("weighs [0-" + MILLIARD + "-1]/1000/1000/100+60"), 1);
        due("1000*1000*999+1000*1000", weight("weighs [1000*1000*999+1000*1000]/1000/1000/100"), 10);
        due("a milliard times minus 1", weight("weighs [" + MILLIARD + "*[0-1]]/1000/1000/100+60"), 50);
        due("500*500*1000*4", weight("weighs 500*500*1000*4/1000/1000/100"), 10);
        due("just above: 1000*1000*1000/999*1000", weight("weighs 5;weighs " + MILLIARD + "/999*1000"), 5);
        due("just below: 1000*1000*999/1000*1000", weight("weighs 5;weighs 1000*1000*999/1000*1000"), 99);
        // at which an int, a long would begin anew
        due("2 to the 31st", weight("weighs 5;weighs 512*512*512*16"), 5);
        due("2 to the 32nd", weight("weighs 5;weighs 512*128*[512*128]"), 5);
        due("2 to the 32nd and 7", weight("weighs 5;weighs 512*128*[512*128]+7"), 5);
        due("a milliard times a milliard", weight("weighs 5;weighs " + MILLIARD + "*[" + MILLIARD + "]"), 5);
        due("a milliard times minus a milliard", weight("weighs 5;weighs " + MILLIARD + "*[0-" + MILLIARD + "]"), 5);
        due("2 to the 29th, twice", weight("weighs 5;weighs 512*512*512*4*[512*512*512*4]"), 5);
        due("on and on", weight("weighs 5;weighs 1000*1000*1000*1000*1000*1000*1000*1000*1000*0"), 5);
        due("beyond it within a bracket", weight("weighs 5;weighs [" + MILLIARD + "+1]*0"), 5);
        due("beyond it for a while", weight("weighs 5;weighs " + MILLIARD + "+1-1"), 5);
        due("in a test", weight("bars if not " + MILLIARD + "+1=1"), 1);
        due("in a test, just within", weight("bars if not " + MILLIARD + "=1"), -1);
        DishLines x = new DishLines();
        due("in orders: a year", Check.orders(x, "year " + MILLIARD + "-" + MILLIARD), 1);
        due("in orders: a broken year", Check.orders(x, "year " + MILLIARD + "+1-" + MILLIARD), -3);
        due("in orders: 4 milliard, an int's 5", Check.orders(x, "year 512*128*[512*128]+5"), -3);
    }

    /** Divided by 0 it is BROKEN; / cut towards 0, % what is left then. */
    private static void divisions() {
        due("1/0", sum("1/0"), 1);
        due("0/0", sum("0/0"), 1);
        due("1%0", sum("1%0"), 1);
        due("0%0", sum("0%0"), 1);
        due("1/[1-1]", sum("1/[1-1]"), 1);
        due("0/1", sum("0/1"), 50);
        due("0%1", sum("0%1"), 50);
        due("1/0*0", sum("1/0*0"), 1);
        due("0*[1/0]", sum("0*[1/0]"), 1);
        due("7/2", sum("7/2"), 53);
        due("7%2", sum("7%2"), 51);
        due("minus 7/2", sum("[0-7]/2"), 47);
        due("minus 7%2", sum("[0-7]%2"), 49);
        due("7/minus 2", sum("7/[0-2]"), 47);
        due("7%minus 2", sum("7%[0-2]"), 51);
        due("minus 7/minus 2", sum("[0-7]/[0-2]"), 53);
        due("minus 7%minus 2", sum("[0-7]%[0-2]"), 49);
        due("minus 1/2", sum("[0-1]/2"), 50);
        due("a milliard/minus 1", weight("weighs 5;weighs " + MILLIARD + "/[0-1]+1000*1000*1000+7"), 7);
        due("a milliard%minus 1", weight("weighs " + MILLIARD + "%[0-1]+7"), 7);
    }

    /** BROKEN is a TEST, too ("or", "and" ask what stands behind only if it can still matter). */
    private static void brokenTests() {
        String[] so = {"1=1 or 1/0=1", "1=1 or 1=1/0 or 1/0=1", "not (1=2 and 1/0=1)", "1=2 and 1/0=1 or 1=1",
            "1=1 or 1/0=1 and 1=2", "not (1=2 and not 1/0=1)", "(1=1 or 1/0=1) and 1=1", "1=2 or 1=1 or 1/0=1",
            "not(1=1 and 1=2 and 1/0=1)", "1=1 or (1/0=1)", "1=1 or not 1/0=1"};
        String[] notSo = {"1=2", "1=2 or 1=2", "1=1 and 1=2", "not 1=1", "1=2 and 1/0=1", "not (1=1 or 1/0=1)"};
        String[] broken = {"1/0=1", "1=1/0", "1/0<1", "1>1/0", "not 1/0=1", "not not 1/0=1", "1=2 or 1/0=1", "1/0=1 or 1=1",
            "1=1 and 1/0=1", "1/0=1 and 1=2", "(1/0=1)", "not (1/0=1 and 1=2)", "1/0=1 or 1/0=1", "1=2 or 1=2 or 1/0=1",
            "1=1 and 1=1 and 1/0=1", "(1=2 or 1/0=1) or 1=1", "not(1=1 and 1/0=1) or 1=1"};
        for (String test : so) {
            due("so: " + test, weight("bars if " + test), -1);
            due("not so: " + test, weight("bars if not (" + test + ")"), 1);
        }
        for (String test : notSo) {
            due("not so: " + test, weight("bars if " + test), 1);
            due("so: not " + test, weight("bars if not (" + test + ")"), -1);
        }
        for (String test : broken) {
            due("broken: " + test, weight("bars if " + test), 1);
            due("broken: not " + test, weight("bars if not (" + test + ")"), 1);
            due("broken, weighs: " + test, weight("weighs 5;weighs 7 if " + test), 5);
        }
        for (String test : new String[] {"1<1", "1>1", "2<1", "1>2", "1=2", "0-1>0", "0<0-1"}) {
            due(test, weight("bars if " + test), 1);
            due("not " + test, weight("bars if not " + test), -1);
            due("not not " + test, weight("bars if not not " + test), 1);
            due("or not " + test, weight("bars if 1=2 or not " + test), -1);
            due("and not " + test, weight("bars if 1=1 and not " + test), -1);
            due(test + " or so", weight("bars if " + test + " or 1=1"), -1);
            due(test + " and broken", weight("bars if not (" + test + " and 1/0=1)"), -1);
        }
        due("1 > 1", weight("bars if 1>1"), 1);
        due("0 < 1", weight("bars if 0<1"), -1);
        due("1 > 0", weight("bars if 1>0"), -1);
        due("minus 1 < 0", weight("bars if 0-1<0"), -1);
        due("minus a milliard < a milliard", weight("bars if 0-" + MILLIARD + "<" + MILLIARD), -1);
    }

    /** What the last "weighs" that HOLDS tells, 0 .. 99 (else the nearest), 1 without. */
    private static void weights() {
        due("0", weight("weighs 0"), 0);
        due("1", weight("weighs 1"), 1);
        due("99", weight("weighs 99"), 99);
        due("100", weight("weighs 100"), 99);
        due("1000", weight("weighs 1000"), 99);
        due("a milliard", weight("weighs " + MILLIARD), 99);
        due("minus 1", weight("weighs 0-1"), 0);
        due("minus a milliard", weight("weighs 0-" + MILLIARD), 0);
        due("128", weight("weighs 128"), 99);
        due("256", weight("weighs 256"), 99);
        due("without", weight("bars if 1=2"), 1);
        due("none that holds", weight("weighs 5 if 1=2;weighs 6 if 1/0=1;weighs 7/0"), 1);
        due("the last of twelve", weight(Check.repeated("weighs 1", ";weighs 2", 10) + ";weighs 3"), 3);
        due("the last that holds of twelve", weight("weighs 9" + Check.repeated("", ";weighs 2/0", 11)), 9);
        due("0 can be, and is the last", weight("weighs 8;weighs 0"), 0);
        due("the sum is not asked if it is not so", weight("weighs 4;weighs 1/0 if 1=2"), 4);
        DishLines x = new DishLines();
        Check.rule(x, "weighs 0-5");
        due("what weighs 0 can be: born", x.house(-1, 0, 1) + x.born(0, 0, 0, 0), 1);
        due("what weighs 0 can be: steps", x.steps(12, 1), 1);
        due("what weighs 0 can be: changes", x.changes(1, -1), 14);
        due("but has no chance", x.odds(1, 1, 3), 1000000000000L);
        due("nor is it drawn", x.line(0, 0, 3), 1);
    }

    private static int asked(String word, int dish, int sort, int place, int thing) {
        DishLines x = new DishLines();
        x.put(0, 0, 9);
        x.put(5, 0, 3);
        x.put(0, 2, 5);
        x.terms(0, 999);
        x.terms(1, 9);
        Check.rule(x, "weighs 0;weighs " + word);
        return x.change(dish, sort, place, thing, 1);
    }

    private static void words() {
        due("sort: the first", asked("sort", 1, 0, 0, 0), 0);
        due("sort: the last", asked("sort", 1, 4, 0, 0), 4);
        due("thing: the first", asked("thing", 1, 0, 0, 5), 0);
        due("thing: the last", asked("thing", 1, 1, 0, 5), 5);
        due("thing: of a stand-in, whose it was", asked("thing", 61, 4, 1, 3), 0);
        due("thing: of swap, at the place", asked("thing", 61, 2, 0, 3), 5);
        due("place: the first", asked("place", 11111, 0, 0, 0), 0);
        due("place: the last", asked("place", 11111, 0, 4, 0), 4);
        due("place: the end", asked("place", 1111, 1, 4, 0), 4);
        due("long: none", asked("long", 0, 1, 0, 0), 0);
        due("long: the most", asked("long", 12345, 0, 4, 0), 5);
        due("long: ahead of in", asked("long", 1234, 1, 4, 0), 4);
        due("has: none", asked("has", 0, 1, 0, 0), 0);
        due("has: none of it", asked("has", 12345, 1, 0, 5), -1);
        due("has: none of it, room", asked("has", 1234, 1, 0, 5), 0);
        due("has: the most", asked("has", 11111, 0, 0, 0), 5);
        due("has: of double, ahead of it", asked("has", 1111, 3, 0, 0), 4);
        due("sweet: the most", asked("sweet", 1, 0, 0, 0), 9);
        due("sweet: of in", asked("sweet", 1, 1, 0, 5), 3);
        due("sweet: of a stand-in, whose it was", asked("sweet", 1, 4, 0, 5), 9);
        due("year", asked("year/10", 1, 0, 0, 0), 99);
        due("year: 999", asked("year-900", 1, 0, 0, 0), 99);
        due("year: 999, not more", asked("year-990", 1, 0, 0, 0), 9);
        due("mood", asked("mood", 1, 0, 0, 0), 9);
    }

    /** BARRED, if "bars" HOLDS: whatever else the LAW tells, in whatever order. */
    private static void barred() {
        due("bars alone", weight("bars"), -1);
        due("ahead", weight("bars;weighs 9"), -1);
        due("behind", weight("weighs 9;bars"), -1);
        due("the twelfth", weight(Check.repeated("weighs 9", ";weighs 8", 10) + ";bars"), -1);
        due("the twelfth that does not hold", weight(Check.repeated("weighs 9", ";weighs 8", 10) + ";bars if 1/0=0"), 8);
        DishLines x = new DishLines();
        x.house(-1, 0, 12);
        Check.rule(x, "bars");
        Check.refused("5 barred", x, -3, y -> y.born(0, 0, 0, 0));
        Check.none("18 barred", x, y -> y.change(12, 0, 0, 0, 0));
        Check.none("18 barred, weighs", x, y -> y.change(12, 0, 0, 0, 1));
        due("19 barred", x.changes(12, -1), 0);
        Check.none("19 barred, the first", x, y -> y.changes(12, 0));
        due("20 barred, to itself", x.steps(12, 12), 0);
        Check.none("20 barred", x, y -> y.steps(12, 1));
        due("21 barred, to itself", x.way(12, 12, 0), 12);
        Check.none("21 barred", x, y -> y.way(12, 1, 0));
        due("27 barred: it stays", x.odds(12, 12, 3), 1000000000000L);
        due("28 barred: it stays", x.likely(12, 3), 12);
        due("32 barred: it stays", x.line(0, 0, 60), 12);
        due("25 barred: to itself", x.first(1, 2), 12);
        due("26 barred: one alone", x.lines(1, 1), 1);
        due("4 of any dish all the same", x.house(0, 0, 1), 1);
        due("23 and does not keep the custom", x.judge(0), 1);
        due("22 with none between", x.between(1, -1), 0);
        due("7 nor any steps", x.at(1, 4), -1);
        due("25 and none for two", x.first(3, 0), -1);
        due("26 nor lines for two", x.lines(3, 0), -1);
    }

    /** TIMES: a NUMBER 1 .. 20. */
    private static void times() {
        for (String times : new String[] {"1", "2", "20", "01", "020", "00000000000000000001"}) {
            DishLines x = new DishLines();
            int some = Integer.parseInt(times);
            due("14 times " + times, Check.orders(x, "year years+3 times " + times), some);
            due("14 times " + times + ": year", x.count(9), 3 * some);
        }
        for (String times : new String[] {"0", "00", "21", "021", "100", "1000", "1001", "99999999999999999999"}) {
            orderFault("year 1 times " + times, 13);
        }
        DishLines x = new DishLines();
        due("14 once without", Check.orders(x, "year years+3"), 1);
        due("14 once without: year", x.count(9), 3);
        due("14 up to 999", Check.orders(x, "year 979;year years+1 times 20"), 21);
        due("14 up to 999: year", x.count(9), 999);
        Check.text(x, "year 980;year years+1 times 20");
        Check.refusedText("14 beyond 999 at the last of twenty", x, -3, DishLines::orders);
        due("14 beyond 999: year", x.count(9), 999);
    }

    /** H: a NUMBER 0 .. 11, T: 0 .. 5; of no such HOUSE it is -1. */
    private static void housesAndThingsOfOrders() {
        DishLines x = new DishLines();
        for (int house = 0; house < 12; house++) {
            due("14 long " + house + ": no such", Check.orders(x, "year 8+long " + house), 1);
            due("14 long " + house + ": -1", x.count(9), 7);
            for (int thing = 0; thing < 6; thing++) {
                due("14 has " + house + " " + thing + ": no such",
                    Check.orders(x, "year 9+has " + house + " " + thing), 1);
                due("14 has " + house + " " + thing + ": -1", x.count(9), 8);
            }
        }
        int[] dishes = {0, 6, 66666, 12345, 1, 11, 111, 1111, 11111, 16161, 61616, 65432};
        for (int dish : dishes) {
            x.house(-1, 0, dish);
        }
        for (int house = 0; house < 12; house++) {
            String digits = dishes[house] == 0 ? "" : Integer.toString(dishes[house]);
            Check.orders(x, "year long " + house);
            due("14 long " + house, x.count(9), digits.length());
            for (int thing = 0; thing < 6; thing++) {
                Check.orders(x, "year has " + house + " " + thing);
                due("14 has " + house + " " + thing, x.count(9),
                    digits.length() - digits.replace("" + (thing + 1), "").length());
            }
        }
        orderFault("year long 12", 10);
        orderFault("year long 011", GOOD);
        orderFault("year has 12 0", 9);
        orderFault("year has 0 6", 11);
        orderFault("year has 0 05", GOOD);
        orderFault("year has 0", 10);
        orderFault("year has 0+0", 10);
        orderFault("year long+0", 9);
        orderFault("year long houses", 10);
        orderFault("year has 0 done", 11);
        DishLines z = new DishLines();
        z.house(-1, 0, 12);
        z.house(-1, 0, 12345);
        z.undo();
        Check.orders(z, "year 5+long 1+has 1 0");
        due("14 of one that has gone", z.count(9), 3);
    }

    private static int bornOf(String text) {
        DishLines x = new DishLines();
        x.house(-1, 0, 123);
        x.house(-1, 5, 0);
        x.house(-1, 0, 55555);
        Check.text(x, text);
        if (x.count(2) != text.length()) {
            return -99;
        }
        int houses = x.count(0);
        int answer = x.orders();
        due(text + ": status", x.status(), Math.min(answer, 0));
        due(text + ": houses", x.count(0), answer < 0 ? houses : houses + answer);
        due(text + ": stopped", x.stopped(), answer < 0 ? 0 : -1);
        return answer < 0 ? answer : x.at(houses, 2);
    }

    /** To be born, as born(): one that can't be ends it. */
    private static void bornByOrders() {
        due("out at the first", bornOf("born 0 out at 0"), 23);
        due("out at the last", bornOf("born 0 out at 2"), 12);
        due("out at the end", bornOf("born 0 out at 3"), -3);
        due("out at 5", bornOf("born 0 out at 5"), -3);
        due("out at 6", bornOf("born 0 out at 6"), -3);
        due("out at -1", bornOf("born 0 out at 0-1"), -3);
        due("out at a milliard", bornOf("born 0 out at " + MILLIARD), -3);
        due("in at the end", bornOf("born 0 in 5 at 3"), 1236);
        due("in behind the end", bornOf("born 0 in 5 at 4"), -3);
        due("in of 0", bornOf("born 0 in 0 at 0"), 1123);
        due("in of 6", bornOf("born 0 in 6 at 0"), -3);
        due("in of -1", bornOf("born 0 in 0-1 at 0"), -3);
        due("in with five", bornOf("born 2 in 0 at 0"), -3);
        due("swap at the last but one", bornOf("born 0 swap at 1"), 132);
        due("swap at the last", bornOf("born 0 swap at 2"), -3);
        due("swap of like ones", bornOf("born 2 swap at 0"), -3);
        due("double at the last", bornOf("born 0 double at 2"), 1233);
        due("double at the end", bornOf("born 0 double at 3"), -3);
        due("double with five", bornOf("born 2 double at 0"), -3);
        due("stand without", bornOf("born 0 stand at 0"), -3);
        due("of the last mother", bornOf("born houses-1 out at 4"), 5555);
        due("of no mother", bornOf("born houses out at 0"), -3);
        due("of -1", bornOf("born 0-1 out at 0"), -3);
        due("of a milliard", bornOf("born " + MILLIARD + " out at 0"), -3);
        due("of one of a later year", bornOf("born 1 in 0 at 0"), -3);
        due("of a broken sum", bornOf("born 0/0 out at 0"), -3);
        due("at a broken sum", bornOf("born 0 out at 0%0"), -3);
        due("in of a broken sum", bornOf("born 0 in 1/0 at 0"), -3);
        due("in at a broken sum", bornOf("born 0 in 1 at 1/0"), -3);
        due("nine have room", bornOf("born 0 out at 0 times 9"), 23);
        due("ten have none", bornOf("born 0 out at 0 times 10"), -5);
    }

    /** year: the YEAR of TERMS is that. */
    private static void yearsByOrders() {
        DishLines x = new DishLines();
        due("14 year 0", Check.orders(x, "year 0"), 1);
        due("14 year 999", Check.orders(x, "year 999"), 1);
        due("14 year 999 it is", x.count(9), 999);
        for (String sum : new String[] {"1000", "999+1", "0-1", MILLIARD, "0-" + MILLIARD, MILLIARD + "+1", "1/0", "5%0"}) {
            Check.text(x, "year 3;year " + sum);
            Check.refusedText("14 year " + sum, x, -3, DishLines::orders);
            due("14 year " + sum + ": it is", x.count(9), 999);
            due("16 year " + sum, x.stopped(), 1);
        }
        x.house(-1, 500, 1);
        x.terms(0, 0);
        due("14 a year back is no harm", Check.orders(x, "year 600;born 0 out at 0;year 10"), 3);
        due("14 a year back", x.count(9), 10);
        due("14 born ahead of it", x.at(1, 1), 600);
        due("14 too early", Check.orders(x, "year 499;born 0 out at 0"), -3);
        due("14 just in time", Check.orders(x, "year 500;born 0 out at 0"), 2);
    }

    private static void wordsOfOrders() {
        DishLines x = new DishLines();
        Check.orders(x, "year 7+last");
        due("14 last: none", x.count(9), 6);
        Check.orders(x, "year 3+houses+done");
        due("14 houses, done: none", x.count(9), 3);
        x.house(-1, 0, 1);
        Check.orders(x, "born 0 out at 0;year 40+last");
        due("14 last: the empty one", x.count(9), 40);
        due("14 done: not those passed over", Check.orders(x, "year 5 times 3;year 1 if 1=2;year 2 if 1/0=1;year done+20"), 4);
        due("14 done: three", x.count(9), 23);
        due("14 done: within times", Check.orders(x, "year 100+done times 4"), 4);
        due("14 done: ahead of the fourth", x.count(9), 103);
        due("14 houses: at once", Check.orders(x, "born 0 in 0 at 0 times 3;year houses"), 4);
        due("14 houses", x.count(9), 5);
        due("14 last is gone with its text", Check.orders(x, "year last+1"), 1);
        due("14 last: none again", x.count(9), 0);
        DishLines z = new DishLines();
        z.house(-1, 0, 6666);
        due("14 last: the most", Check.orders(z, "born 0 in 5 at 0;year last-[66*1000]-600+0"), 2);
        due("14 last: 66666", z.count(9), 66);
    }

    /** Each time its "if" is asked (not run, if it is not so or BROKEN), then its SUMS. */
    private static void ifOfOrders() {
        DishLines x = new DishLines();
        due("14 none run", Check.orders(x, "year 5 if 1=2"), 0);
        due("14 none run: status", x.status(), 0);
        due("14 none run: year", x.count(9), 0);
        due("14 none run, broken", Check.orders(x, "year 5 if 1/0=0"), 0);
        due("14 none run, not broken", Check.orders(x, "year 5 if not 1/0=0"), 0);
        due("14 its sums are not asked", Check.orders(x, "year 1/0 if 1=2;born 99 out at 99 if 1/0=1"), 0);
        due("14 each time", Check.orders(x, "year years+1 times 20 if years<7"), 7);
        due("14 each time: year", x.count(9), 7);
        due("14 one time alone", Check.orders(x, "year years+1 times 20 if done=0"), 1);
        due("14 again later", Check.orders(x, "year years+1;year 0 if years>100;year years*2 if years>8"), 2);
        due("14 again later: year", x.count(9), 18);
        due("14 a house that is there from then on",
            Check.orders(x, "year 50 if long 0=0-1;year 60 if not long 0=0-1"), 1);
        due("14 year 50", x.count(9), 50);
    }

    /** One that can't be ends it: all is as it was ahead of it. */
    private static void allAsItWas() {
        DishLines x = new DishLines();
        x.house(-1, 0, 12);
        x.line(4, 0, 7);
        x.terms(0, 30);
        Check.bytes(x, 9, 0, 1);
        x.row();
        String[] ends = {"year 1000", "born 0 out at 9", "born 44 out at 0", "born 0 in 1/0 at 0", "year 0-1", "year 1%0",
            "year 10;born 3 out at 0"};
        for (String end : ends) {
            Check.text(x, "born 0 in 0 at 0 times 3;year 40;born 1 in 1 at 1;" + end);
            Check.refusedText("14 " + end, x, -3, DishLines::orders);
            due("14 fault of " + end, x.fault(), -1);
            due("14 tape of " + end, x.count(2), 0);
        }
        Check.text(x, "year 40;born 0 in 0 at 0 times 11;year 50");
        Check.refusedText("14 no room", x, -5, DishLines::orders);
        due("14 no room: stopped", x.stopped(), 1);
        due("14 room for ten", Check.orders(x, "year 40;born 0 in 0 at 0 times 10;year 50"), 12);
        Check.text(x, "year 60;born 0 in 0 at 0");
        Check.refusedText("14 no room any more", x, -5, DishLines::orders);
        due("14 a year needs none", Check.orders(x, "year 60"), 1);
    }

    /** Which CLAUSE of the latest orders() could not be. */
    private static void stopped() {
        DishLines x = new DishLines();
        due("16 ahead of any", x.stopped(), -1);
        for (int at = 0; at < 12; at++) {
            String ahead = Check.repeated("", "year 1;", at);
            Check.text(x, ahead + "year 1000");
            Check.refusedText("14 the " + at + "-th", x, -3, DishLines::orders);
            due("16 the " + at + "-th", x.stopped(), at);
        }
        Check.orders(x, "year 1000;year 1000");
        due("16 the first of two", x.stopped(), 0);
        Check.orders(x, "year 1000 if 1=2;year 1;year 1000");
        due("16 not one passed over", x.stopped(), 2);
        x.law();
        x.row();
        x.undo();
        due("16 stays", x.stopped(), 2);
        x.orders();
        due("16 none: not read", x.stopped(), -1);
        Check.orders(x, "year 1000");
        due("16 the first", x.stopped(), 0);
        Check.orders(x, "year 1");
        due("16 none: all could be", x.stopped(), -1);
    }

    /** Twelve CLAUSES, twenty times each. */
    private static void mostOrders() {
        DishLines x = new DishLines();
        due("14 240", Check.orders(x, Check.repeated("year years+4 times 20", ";year years+4 times 20", 11)), 240);
        due("14 240: year", x.count(9), 960);
        x.terms(0, 0);
        due("14 240, done", Check.orders(x, Check.repeated("year done times 20", ";year done times 20", 11)), 240);
        due("14 240, done: year", x.count(9), 239);
    }
}
