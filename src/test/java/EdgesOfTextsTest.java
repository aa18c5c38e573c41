/** Terms II and promises 8 to 16: for each sentence of the document that names an edge a test of its own. */
public final class EdgesOfTextsTest {
    private static final Due DUE = new Due();

    private static String times(String text, int n) {
        return Land.times(text, n);
    }

    private static String show(String text) {
        return text.length() > 50 ? text.substring(0, 50) + ".. (" + text.length() + ")" : text;
    }

    /** -1: the LAW is one. */
    private static void lawFault(String text, int want) {
        BoughtKin x = new BoughtKin();
        Feeding.put(x, text);
        DUE.is("law of '" + show(text) + "'", x.law(), want == -1 ? 0 : -6);
        DUE.is("fault of '" + show(text) + "'", x.fault(), want);
        DUE.is("laws by '" + show(text) + "'", x.count(4), want == -1 ? 1 : 0);
    }

    /** -1: the ORDERS are such, though perhaps they can't be. */
    private static void ordersFault(String text, int want) {
        BoughtKin x = new BoughtKin();
        Feeding.put(x, text);
        DUE.is("orders of '" + show(text) + "'", x.orders() == -6 ? -6 : 0, want == -1 ? 0 : -6);
        DUE.is("fault of '" + show(text) + "'", x.fault(), want);
    }

    /** 0 (born 400, lived 60, family 3, debt 17) as a father for 1 (born 430, family 5); year 444, mood 8. */
    private static BoughtKin two() {
        BoughtKin x = new BoughtKin();
        x.person(0, 400, 60, 3);
        x.person(1, 430, 70, 5);
        x.put(0, 1, 17);
        x.put(1, 2, 9999);
        x.terms(0, 444);
        x.terms(3, 8);
        return x;
    }

    /** 100, if the "price" does not HOLD. */
    private static int price(String sum) {
        BoughtKin x = two();
        DUE.is("law of price " + show(sum), Land.law(x, "price " + sum), 0);
        return x.asks(0, 1, 0);
    }

    private static int holds(String test) {
        BoughtKin x = two();
        DUE.is("law of bars if " + show(test), Land.law(x, "bars if " + test), 0);
        return x.asks(0, 1, 1);
    }

    /** The YEAR behind it, or what it was REFUSED by. */
    private static int year(BoughtKin x, String sum) {
        int answer = Land.orders(x, "year " + sum);
        return answer < 0 ? answer : x.count(13);
    }

    /** "TEXTS are on a TAPE of at most 400 bytes." */
    private static void fullTape() {
        lawFault(times(" ", 396) + "bars", -1);
        lawFault("price 1" + times(" ", 393), -1);
        lawFault(times(" ", 399) + "?", 399);
        lawFault("bars" + times(" ", 395) + "x", 399);
        lawFault(times("x", 400), 0);
        lawFault(times(" ", 397) + "bar", 397);
        lawFault(times(" ", 394) + "price9", -1);
        lawFault(times(" ", 394) + "price ", 400);
        lawFault(times("?", 400), 0);
        lawFault("price " + times("0", 394), -1);
        ordersFault(times(" ", 394) + "year 1", -1);
        ordersFault("year 1" + times(" ", 393) + ";", 400);
    }

    /** "TOKENS: longest rows of letters a .. z" */
    private static void letters() {
        lawFault("bars", -1);
        lawFault("barsa", 0);
        lawFault("barsz", 0);
        lawFault("zbars", 0);
        lawFault("ba rs", 0);
        lawFault("bar", 0);
        lawFault("bars`", 4);
        lawFault("bars{", 4);
        lawFault("barsA", 4);
        lawFault("BARS", 0);
        lawFault("bars" + (char) 225, 4);
        lawFault("bars if bornlived = 1", 8);
        lawFault("bars ifborn = 1", 5);
        ordersFault("year nowlast", 5);
        ordersFault("yearnow", 0);
    }

    /** "of digits" */
    private static void digits() {
        lawFault("price 09", -1);
        lawFault("price 0/9", -1);
        lawFault("price 1:", 7);
        lawFault("price 1/", 8);
        lawFault("price 10 0", 9);
        lawFault("price 1born", 7);
        lawFault("price born1", 10);
        lawFault("price1", -1);
        lawFault("price 1if 1=1", -1);
        DUE.is("9 and 0 are digits", price("90 + 09"), 99);
    }

    /** "single other bytes" */
    private static void otherBytes() {
        for (int sign : new int[] {0, 1, 9, 10, 13, 31, 33, 127, 128, 160, 255}) {
            lawFault((char) sign + "bars", 0);
            lawFault("bars" + (char) sign, 4);
        }
        lawFault("price [[1]]", -1);
        lawFault("bars if ((1<2))", -1);
        lawFault("bars;;", 5);
        lawFault("bars if 1<>2", 10);
        lawFault("bars if 1<=2", 10);
        lawFault("bars if 1==2", 10);
    }

    /** "any blanks (32) between" */
    private static void blanks() {
        lawFault("   price   1   ;   bars   if   (   [   1   ]   =   1   )   ", -1);
        lawFault("price1;bars if([1]=1)", -1);
        lawFault("price 1 0", 8);
        lawFault("pri ce 1", 0);
        ordersFault("buy1for2by3times4if5=6", -1);
        ordersFault("  buy  1  for  2  by  3  times  4  if  5  =  6  ", -1);
    }

    /** "CLAUSE {";" CLAUSE}, 12 at most (FAULT at the 13th's first TOKEN)" */
    private static void clauses() {
        lawFault("bars", -1);
        lawFault(times("bars;", 11) + "bars", -1);
        lawFault(times("bars;", 12) + "bars", 60);
        lawFault(times("bars;", 12) + "   bars", 63);
        lawFault(times("bars;", 12) + "x", 60);
        lawFault(times("bars;", 12), 60);
        lawFault(times("bars;", 12) + "  ", 62);
        lawFault(times("bars;", 12) + ";", 60);
        lawFault(times("bars;", 11) + "x", 55);
        lawFault(times("bars;", 11), 55);
        lawFault(";bars", 0);
        lawFault("bars;;bars", 5);
        ordersFault(times("year 1;", 11) + "year 1", -1);
        ordersFault(times("year 1;", 12) + "year 1", 84);
        ordersFault(times("year 1;", 12), 84);
        BoughtKin x = two();
        DUE.is("twelve are run", Land.orders(x, times("year now+1;", 11) + "year now+1"), 12);
        DUE.is("each of them", x.count(13), 456);
        Land.law(x, times("price 1 if 1=2;", 11) + "price 7");
        DUE.is("the twelfth tells", x.asks(0, 1, 0), 7);
    }

    /** "NUMBER (to 1,000)" */
    private static void numbers() {
        DUE.is("0", price("0"), 0);
        DUE.is("1000", price("1000"), 1000);
        DUE.is("01000", price("01000"), 1000);
        lawFault("price 1001", 6);
        lawFault("price 01001", 6);
        lawFault("price 9999", 6);
        lawFault("price 10000", 6);
        lawFault("price 65536", 6);
        lawFault("price 4294967295", 6);
        lawFault("price 4294967296", 6);
        lawFault("price 4294967297", 6);
        lawFault("price 18446744073709551616", 6);
        lawFault("price 18446744073709551617", 6);
        lawFault("price 1" + times("0", 300), 6);
        lawFault("price 1 + 1001", 10);
        lawFault("bars if 1 = 1001", 12);
        ordersFault("year 1000", -1);
        ordersFault("year 1001", 5);
        ordersFault("buy 1 for 1001 by 2", 10);
    }

    /** "50 PARTS that are NUMBERS and words (FAULT at the 51st)" */
    private static void parts() {
        lawFault("price 1" + times("+1", 49), -1);
        lawFault("price 1" + times("+1", 50), 106);
        lawFault("price born" + times("+1", 49), -1);
        lawFault("price born" + times("+1", 49) + "+born", 109);
        lawFault("price 1" + times("+1", 48) + "+born+lived", 109);
        lawFault("price 1" + times("+1", 49) + "+9999", 106);
        lawFault("price 1" + times("+1", 49) + "+", 106);
        lawFault("price 1" + times("+1", 49) + "+[1", 107);
        lawFault("price 1" + times("+1", 49) + ";bars", -1);
        lawFault("price 1" + times("+1", 49) + ";bars if 1=1", 114);
        lawFault("price 1" + times("+1", 47) + " if 1=1", -1);
        lawFault("price 1" + times("+1", 48) + " if 1=1", 109);
        lawFault(times("price 1;", 11) + "price 1" + times("+1", 38), -1);
        lawFault(times("price 1;", 11) + "price 1" + times("+1", 39), 172);
        DUE.is("fifty ones", price("1" + times("+1", 49)), 50);
        DUE.is("fifty ones, the last ahead", price(times("[1-", 8) + "1" + times("]", 8) + times("+1", 41)), 42);
    }

    /** "8 brackets of both kinds within one another (FAULT at the 9th) at most" */
    private static void brackets() {
        lawFault("price " + times("[", 8) + "1" + times("]", 8), -1);
        lawFault("price " + times("[", 9) + "1" + times("]", 9), 14);
        lawFault("bars if " + times("(", 8) + "1=1" + times(")", 8), -1);
        lawFault("bars if " + times("(", 9) + "1=1" + times(")", 9), 16);
        lawFault("bars if " + times("(", 8) + "[1]=1" + times(")", 8), 16);
        lawFault("bars if " + times("(", 8) + "1=[1]" + times(")", 8), 18);
        lawFault("bars if " + times("(", 7) + "[1]=[1]" + times(")", 7), -1);
        lawFault("bars if (" + times("[", 7) + "1" + times("]", 7) + "=1)", -1);
        lawFault("bars if (" + times("[", 8) + "1" + times("]", 8) + "=1)", 16);
        lawFault("price " + times("[1]+", 20) + "1", -1);
        lawFault("bars if (1=1)" + times("and(1=1)", 20), -1);
        lawFault("bars if (1=1)" + times("or(1=1)", 8) + "and" + times("(", 8) + "1=1" + times(")", 8), -1);
        lawFault("price " + times("[", 8) + "1" + times("]", 8) + "+" + times("[", 8) + "1" + times("]", 8), -1);
        lawFault("price " + times("[", 8) + "1" + times("]", 8) + "+" + times("[", 9), 32);
        lawFault("price " + times("[", 8) + "1" + times("]", 9), 23);
        ordersFault("year " + times("[", 9) + "1" + times("]", 9), 13);
        ordersFault("year 1 if " + times("(", 9), 18);
        DUE.is("eight deep", price(times("[1+", 8) + "1" + times("]", 8)), 9);
        DUE.is("eight deep, two held at each", price(times("1+1*[", 8) + "1+1*2" + times("]", 8)), 11);
        DUE.is("and one more in a TEST", holds("11=" + times("1+1*[", 8) + "1+1*2" + times("]", 8)), 1);
        DUE.is("eight deep, a TEST", holds(times("(1=2 or ", 8) + "1=1" + times(")", 8)), 1);
    }

    /** The same sentences: what one TEXT has does not count in the next one, whatever its FAULT. */
    private static void partsAndBracketsOfEachText() {
        BoughtKin x = two();
        for (int i = 0; i < 3; i++) {
            DUE.is("cut off within eight brackets", Land.orders(x, "year " + times("[", 8)), -6);
            DUE.is("cut off within eight brackets of TESTS", Land.orders(x, "year 1 if " + times("(", 8)), -6);
            DUE.is("eight deep behind that", year(x, times("[", 8) + "9" + times("]", 8)), 9);
            DUE.is("51 PARTS", Land.orders(x, "year 1" + times("+1", 50)), -6);
            DUE.is("50 PARTS behind that", year(x, "1" + times("+1", 49)), 50);
        }
        for (int i = 0; i < 5; i++) {
            DUE.is("a long LAW", Land.law(x, "price " + i + times("+1*1", 24) + "+0"), i);
        }
        for (int i = 0; i < 5; i++) {
            x.force(i);
            DUE.is("what it tells", x.asks(0, 1, 0), 24 + i);
        }
        for (int i = 0; i < 10; i++) {
            DUE.is("long ORDERS", year(x, "now-now+" + i + times("+1*1", 20)), 20 + i);
        }
    }

    /** "FAULT: the first TOKEN that can't go on there (the end's: the TEXT's length)" */
    private static void faultAtTheEnd() {
        lawFault("price", 5);
        lawFault("price   ", 8);
        lawFault("price 1 +", 9);
        lawFault("price 1 + ", 10);
        lawFault("price [1", 8);
        lawFault("price 1 if", 10);
        lawFault("bars if not", 11);
        lawFault("bars if 1", 9);
        lawFault("bars if 1 =", 11);
        lawFault("bars if 1 = 1 and", 17);
        lawFault("bars if 1 = 1 or  ", 18);
        lawFault("bars if (1 = 1", 14);
        lawFault("bars;", 5);
        ordersFault("buy", 3);
        ordersFault("buy 1", 5);
        ordersFault("buy 1 for", 9);
        ordersFault("buy 1 for 2", 11);
        ordersFault("buy 1 for 2 by", 14);
        ordersFault("year 1 times", 12);
        ordersFault("year purse", 10);
        ordersFault("year kin", 8);
        ordersFault("year kin 1", 10);
        lawFault("price 1" + times(" ", 392) + "+", 400);
    }

    /** "Beyond 1,000,000,000 either way .. a SUM .. is BROKEN" */
    private static void beyondMilliard() {
        DUE.is("a milliard", price("1000*1000*1000"), 9999);
        DUE.is("one more", price("1000*1000*1000+1"), 100);
        DUE.is("a milliard below 0", price("0-1000*1000*1000"), 0);
        DUE.is("one less", price("0-1000*1000*1000-1"), 100);
        DUE.is("by times", price("1000*1000*[1000+1]"), 100);
        DUE.is("by times, below 0", price("[0-1000]*1000*[1000+1]"), 100);
        DUE.is("two milliards", price("1000*1000*1000+1000*1000*1000"), 100);
        DUE.is("four milliards, less than 0 in 32 bits", price("[1000*1000*1000]*4"), 100);
        DUE.is("2 to the 32nd, 0 in 32 bits", price("[256*256]*[256*256]"), 100);
        DUE.is("2 to the 32nd and 7", price("[256*256]*[256*256]+7"), 100);
        DUE.is("a trillion times a million", price("[1000*1000*1000]*[1000*1000*1000]"), 100);
        DUE.is("below 0 twice", price("[0-1000*1000*1000]*[0-1000*1000*1000]"), 100);
        DUE.is("beyond within brackets", price("[1000*1000*1000+1]-1000"), 100);
        DUE.is("the whole way", price("1000*1000*1000/1000/1000-999"), 1);
        DUE.is("a TEST at the edge", holds("1000*1000*1000>999"), 1);
        DUE.is("a TEST beyond, left", holds("1000*1000*1000+1>0"), 0);
        DUE.is("a TEST beyond, right", holds("0<1000*1000*1000+1"), 0);
        DUE.is("not of a TEST beyond", holds("not 1000*1000*1000+1<0"), 0);
    }

    /** "or divided by 0" */
    private static void dividedByNothing() {
        DUE.is("/ 0", price("7/0"), 100);
        DUE.is("% 0", price("7%0"), 100);
        DUE.is("0 / 0", price("0/0"), 100);
        DUE.is("0 % 0", price("0%0"), 100);
        DUE.is("/ a SUM of 0", price("7/[3-3]"), 100);
        DUE.is("/ a word of 0", price("7/side"), 100);
        DUE.is("0 / 7", price("0/7"), 0);
        DUE.is("a TEST", holds("7/0=7/0"), 0);
        DUE.is("not of a TEST", holds("not 7%0=1"), 0);
        DUE.is("of ORDERS", year(two(), "7/0"), -3);
        DUE.is("rest, of ORDERS", year(two(), "7%[now-now]"), -3);
    }

    /** "(/ cut towards 0, % what is left then)" */
    private static void cutTowardsNothing() {
        DUE.is("7 / 2", price("7/2"), 3);
        DUE.is("-7 / 2", price("10+[0-7]/2"), 7);
        DUE.is("7 / -2", price("10+7/[0-2]"), 7);
        DUE.is("-7 / -2", price("10+[0-7]/[0-2]"), 13);
        DUE.is("1 / 2", price("1/2"), 0);
        DUE.is("-1 / 2", price("5+[0-1]/2"), 5);
        DUE.is("7 % 2", price("7%2"), 1);
        DUE.is("-7 % 2", price("10+[0-7]%2"), 9);
        DUE.is("7 % -2", price("10+7%[0-2]"), 11);
        DUE.is("-7 % -2", price("10+[0-7]%[0-2]"), 9);
        DUE.is("-6 % 2", price("10+[0-6]%2"), 10);
        DUE.is("a milliard below 0 by -1", price("[0-1000*1000*1000]/[0-1]"), 9999);
    }

    /** "("or", "and" ask what stands behind only if it can still matter)" */
    private static void onlyIfItMatters() {
        DUE.is("so or BROKEN", holds("1=1 or 1/0=1"), 1);
        DUE.is("not so or BROKEN", holds("1=2 or 1/0=1"), 0);
        DUE.is("BROKEN or so", holds("1/0=1 or 1=1"), 0);
        DUE.is("not (not so and BROKEN)", holds("not(1=2 and 1/0=1)"), 1);
        DUE.is("not (so and BROKEN)", holds("not(1=1 and 1/0=1)"), 0);
        DUE.is("not (BROKEN and not so)", holds("not(1/0=1 and 1=2)"), 0);
        DUE.is("not so, not so, BROKEN", holds("1=2 or 1=2 or 1/0=1"), 0);
        DUE.is("not so, so, BROKEN", holds("1=2 or 1=1 or 1/0=1"), 1);
        DUE.is("and within or", holds("1=2 and 1/0=1 or 1=1"), 1);
        DUE.is("or behind and", holds("1=1 or 1=1 and 1/0=1"), 1);
        DUE.is("of ORDERS", Land.orders(two(), "year 1 if 1=1 or 1/0=1"), 1);
    }

    /** "not" PLAIN | "(" TEST ")": as many as a TAPE has room for */
    private static void notOfNot() {
        DUE.is("not (not so)", holds("not(not 1=1)"), 1);
        DUE.is("not (not (not so))", holds("not(not(not 1=1))"), 0);
        DUE.is("not (not so) and so", holds("not(not 1=1)and 1=1"), 1);
        DUE.is("not (not so and so)", holds("not(not 1=1 and 1=1)"), 1);
        DUE.is("not (not so or not so)", holds("not(not 1=1 or not 2=2)"), 1);
        DUE.is("eight times within brackets", holds(times("not(", 8) + "1=1" + times(")", 8)), 1);
        DUE.is("as many as there is room for", holds(times("not ", 97) + "1=2"), 1);
        DUE.is("one less", holds(times("not ", 96) + "1=2"), 0);
    }

    /** "LAWS, 6 at most" */
    private static void sixLaws() {
        BoughtKin x = two();
        x.image(0);
        for (int i = 0; i < 6; i++) {
            DUE.is("the LAW's number", Land.law(x, "price " + i), i);
        }
        DUE.is("the seventh", Land.law(x, "price 6"), -5);
        DUE.is("still six", x.count(4), 6);
        DUE.is("the sixth is in FORCE", x.asks(0, 1, 0), 5);
        DUE.is("no such LAW", x.force(6), -2);
        x.force(0);
        DUE.is("the first is as it was", x.asks(0, 1, 0), 0);
        x.back(0);
        DUE.is("room again", Land.law(x, "price 9"), 0);
        DUE.is("and it tells", x.asks(0, 1, 0), 9);
    }

    /** "one is in FORCE (NONE at first: no CLAUSE)" */
    private static void noLawInForce() {
        BoughtKin x = two();
        DUE.is("NONE at first", x.count(12), -1);
        Feeding.put(x, "price 1;ranks 9;bars");
        x.law();
        DUE.is("a LAW is not in FORCE by itself", x.count(12), -1);
        DUE.is("no PRICE by it", x.asks(0, 1, 0), 100);
        DUE.is("no RANK by it", x.of(0, 10), 0);
        DUE.is("not BARRED by it", x.asks(0, 1, 1), 0);
        x.force(0);
        DUE.is("in FORCE", x.asks(0, 1, 0) * 100 + x.of(0, 10) * 10 + x.asks(0, 1, 1), 191);
        x.force(-1);
        DUE.is("NONE again", x.asks(0, 1, 0) * 100 + x.of(0, 10) * 10 + x.asks(0, 1, 1), 10000);
    }

    /** "age: how much later the child was BORN": it may be below 0. */
    private static void ageOfTheOlder() {
        BoughtKin x = new BoughtKin();
        x.person(0, 999, 1, 0);
        x.person(0, 0, 1, 0);
        Land.law(x, "price age + 1000");
        DUE.is("999 later", x.asks(1, 0, 0), 1999);
        DUE.is("999 ahead", x.asks(0, 1, 0), 1);
    }

    /** "ranks" of a PERSON (age, own -1)" */
    private static void ageAndOwnOfOneWhoRanks() {
        BoughtKin x = two();
        Land.law(x, "ranks 5 if age = 0 - 1");
        DUE.is("age", x.of(0, 10), 5);
        Land.law(x, "ranks 6 if own = 0 - 1");
        DUE.is("own", x.of(1, 10), 6);
        Land.law(x, "ranks age + own + 2");
        DUE.is("both", x.of(1, 10), 0);
        Land.law(x, "ranks side * 50 + family");
        DUE.is("side of that one", x.of(1, 10), 55);
    }

    /** "A CLAUSE HOLDS, if its "if" (if it has one) is so, and neither that nor its SUM is BROKEN." */
    private static void clausesThatHold() {
        BoughtKin x = two();
        Land.law(x, "price 5;price 6 if 1=2");
        DUE.is("not so", x.asks(0, 1, 0), 5);
        Land.law(x, "price 5;price 6 if 1/0=1");
        DUE.is("BROKEN if", x.asks(0, 1, 0), 5);
        Land.law(x, "price 5;price 6/0");
        DUE.is("BROKEN SUM", x.asks(0, 1, 0), 5);
        Land.law(x, "price 5;price 6/0 if 1=1");
        DUE.is("BROKEN SUM, though so", x.asks(0, 1, 0), 5);
        Land.law(x, "bars if 1/0=1;bars if 1=2");
        DUE.is("none BARS", x.asks(0, 1, 1), 0);
        Land.law(x, "ranks 4;ranks 5/0;ranks 6 if 1/0=0;ranks 7 if 1=2");
        DUE.is("RANKS by the last that HOLDS", x.of(0, 10), 4);
    }

    /** "0 .. 9,999 (else the nearest)" */
    private static void priceWithin() {
        DUE.is("9,999", price("1000*10-1"), 9999);
        DUE.is("10,000", price("1000*10"), 9999);
        DUE.is("9,998", price("1000*10-2"), 9998);
        DUE.is("-1", price("0-1"), 0);
        DUE.is("1", price("0+1"), 1);
        DUE.is("far above", price("1000*1000*1000"), 9999);
        DUE.is("far below", price("0-1000*1000*1000"), 0);
    }

    /** "100 without, and 100 more if NOBLE" */
    private static void priceWithout() {
        BoughtKin x = two();
        DUE.is("without a LAW", x.asks(0, 1, 0), 100);
        x.put(0, 0, 1);
        DUE.is("of a NOBLE", x.asks(0, 1, 0), 200);
        DUE.is("for a NOBLE", x.asks(1, 0, 0), 100);
        Land.law(x, "bars;ranks 1");
        DUE.is("a LAW without price", x.asks(0, 1, 0), 200);
        Land.law(x, "price 0 - 5");
        DUE.is("of a NOBLE from 0", x.asks(0, 1, 0), 0);
        Land.law(x, "price 1000 * 10");
        DUE.is("of a NOBLE to 9,999", x.asks(0, 1, 0), 9999);
    }

    /** "one RANKS as "ranks" tells, 0 .. 99, NOBLE without" */
    private static void rankWithin() {
        BoughtKin x = two();
        x.put(1, 0, 1);
        DUE.is("without, not NOBLE", x.of(0, 10), 0);
        DUE.is("without, NOBLE", x.of(1, 10), 1);
        Land.law(x, "ranks 99");
        DUE.is("99", x.of(0, 10), 99);
        Land.law(x, "ranks 100");
        DUE.is("100", x.of(0, 10), 99);
        Land.law(x, "ranks 0 - 1");
        DUE.is("-1", x.of(0, 10), 0);
        DUE.is("-1 of a NOBLE", x.of(1, 10), 0);
        Land.law(x, "ranks 1000 * 1000 * 1000");
        DUE.is("a milliard", x.of(1, 10), 99);
        Land.law(x, "ranks 1000 * 1000 * 1000 + 1");
        DUE.is("BROKEN of a NOBLE", x.of(1, 10), 1);
    }

    /** "TIMES: a NUMBER 1 .. 20." and "(once without)" */
    private static void timesOfAClause() {
        for (int times : new int[] {1, 2, 19, 20}) {
            DUE.is("times " + times, Land.orders(two(), "year now + 1 times " + times), times);
        }
        DUE.is("times 020", Land.orders(two(), "year now + 1 times 020"), 20);
        DUE.is("once without", Land.orders(two(), "year now + 1"), 1);
        ordersFault("year 1 times 0", 13);
        ordersFault("year 1 times 21", 13);
        ordersFault("year 1 times 1000", 13);
        ordersFault("year 1 times 1001", 13);
        ordersFault("year 1 times 4294967297", 13);
        ordersFault("year 1 times now", 13);
        ordersFault("year 1 times -1", 13);
        ordersFault("year 1 times [1]", 13);
        ordersFault("year 1 times 1 + 1", 15);
        ordersFault("year 1 times 1 times 1", 15);
        DUE.is("not run is not counted", Land.orders(two(), "year now + 1 times 20 if now < 450"), 6);
    }

    /** "(P, Q: NUMBERS 0 .. 15)" */
    private static void peopleInOrders() {
        BoughtKin x = Land.chain(16);
        x.put(15, 2, 77);
        DUE.is("purse 15", year(x, "purse 15"), 77);
        DUE.is("purse 0", year(x, "purse 0 + 3"), 3);
        DUE.is("kin 0 15", year(x, "kin 0 15"), 15);
        DUE.is("kin 15 0", year(x, "kin 15 0"), 15);
        DUE.is("kin 15 15", year(x, "kin 15 15"), 0);
        DUE.is("kin 015 00", year(x, "kin 015 00"), 15);
        ordersFault("year purse 16", 11);
        ordersFault("year purse 1001", 11);
        ordersFault("year purse 4294967296", 11);
        ordersFault("year purse now", 11);
        ordersFault("year purse [1]", 11);
        ordersFault("year purse -1", 11);
        ordersFault("year kin 16 0", 9);
        ordersFault("year kin 0 16", 11);
        ordersFault("year kin 0 now", 11);
        ordersFault("year kin 0 - 1", 11);
    }

    /** "P, Q, TIMES aside, NUMBERS and words count as PARTS." */
    private static void partsOfOrders() {
        ordersFault("year 1" + times("+1", 49) + " times 20", -1);
        ordersFault("year purse 0" + times("+1", 49), -1);
        ordersFault("year purse 0" + times("+1", 49) + "+1", 111);
        ordersFault("year kin 0 1" + times("+1", 49), -1);
        ordersFault("year kin 0 1" + times("+1", 50), 111);
        ordersFault("year 1" + times("+1", 48) + "+kin 0 1", -1);
        ordersFault("year 1" + times("+1", 49) + "+kin 0 1", 105);
        ordersFault("year 1" + times("+1", 49) + "+purse 0", 105);
        ordersFault("year 1" + times("+1", 48) + "+purse 99", 109);
        ordersFault("buy 1 for 2 by 3" + times("+1", 47), -1);
        ordersFault("buy 1 for 2 by 3" + times("+1", 48), 111);
        ordersFault("year 1 times 2;year 1" + times("+1", 48), -1);
        ordersFault("year 1 times 2;year 1" + times("+1", 49), 118);
    }

    /** "each time its "if" is asked (not run, if it is not so or BROKEN), then its SUMS from the left" */
    private static void ordersNotRun() {
        BoughtKin x = two();
        DUE.is("not so", Land.orders(x, "year 7 if 1 = 2"), 0);
        DUE.is("BROKEN", Land.orders(x, "year 7 if 1 / 0 = 1"), 0);
        DUE.is("not so, though the SUM is BROKEN", Land.orders(x, "year 7 / 0 if 1 = 2"), 0);
        DUE.is("not so, though nobody is there", Land.orders(x, "buy 9 for 9 by 9 times 20 if 1 = 2"), 0);
        DUE.is("stopped nowhere", x.stopped(), -1);
        DUE.is("as it was", x.count(13), 444);
        DUE.is("the third time", Land.orders(x, "year now + 1 times 20 if not now = 446"), 2);
    }

    /** "done: how many were run in this TEXT" */
    private static void doneInThisText() {
        BoughtKin x = two();
        DUE.is("none", year(x, "done"), 0);
        DUE.is("those that were run", year(x, "1;year 2 if 1 = 2;year done * 10"), 10);
        DUE.is("another TEXT begins at 0", year(x, "done"), 0);
        DUE.is("most: twelve by twenty", Land.orders(x, times("year now+1 times 20;", 11) + "year done times 20"), 240);
        DUE.is("the last of them", x.count(13), 239);
    }

    /** "last: the PRICE of the latest purchase in it (-1: none)" */
    private static void lastInThisText() {
        BoughtKin x = two();
        DUE.is("none", year(x, "last + 1"), 0);
        DUE.is("behind a purchase", Land.orders(x, "year 5 if last = 100;buy 0 for 1 by 1;year last"), 2);
        DUE.is("its PRICE", x.count(13), 100);
        DUE.is("another TEXT has none", year(x, "last + 1"), 0);
        x.undo();
        Land.law(x, "price 0");
        DUE.is("a PRICE of 0 is one", Land.orders(x, "buy 0 for 1 by 1;year 7 if last = 0"), 2);
    }

    /** "purse: of a PERSON (-1: no such), kin: how far two are KIN (-1: not, no such)" */
    private static void wordsOfNobody() {
        BoughtKin x = two();
        DUE.is("purse of no such", year(x, "purse 2 + 1"), 0);
        DUE.is("purse of no such, the last", year(x, "purse 15 + 1"), 0);
        DUE.is("purse of 1, the most", year(x, "purse 1 / 100"), 99);
        DUE.is("kin, not", year(x, "kin 0 1 + 1"), 0);
        DUE.is("kin, no such second", year(x, "kin 0 2 + 1"), 0);
        DUE.is("kin, no such first", year(x, "kin 2 0 + 1"), 0);
        DUE.is("kin, neither", year(x, "kin 15 15 + 1"), 0);
        DUE.is("kin, the same", year(x, "kin 1 1"), 0);
        DUE.is("nobody in a new country", year(new BoughtKin(), "people"), 0);
    }

    /** "One that can't be (a BROKEN SUM, as buy(), terms() are REFUSED) ends it" */
    private static void ordersThatCannotBe() {
        String[] texts = {"year 1/0", "year 1000", "year 0-1", "buy 2 for 1 by 1", "buy 0 for 2 by 1",
            "buy 0 for 1 by 2", "buy 0-1 for 1 by 1", "buy 0 for 1 by 0", "buy 1/0 for 1 by 1", "buy 0 for 1/0 by 1",
            "buy 0 for 1 by 1/0", "buy 1 for 1 by 1", "buy 1 for 0 by 0", "buy 1000*1000 for 1 by 1",
            "buy 256*256*256*64 for 1 by 1", "year 256*256*256*32"};
        for (String text : texts) {
            BoughtKin x = two();
            DUE.is("can't be: " + text, Land.orders(x, "year 3;" + text + ";year 4"), -3);
            DUE.is("which: " + text, x.stopped(), 1);
            DUE.is("the YEAR ahead of: " + text, x.count(13), 444);
            DUE.is("read without FAULT: " + text, x.fault(), -1);
            DUE.is("REFUSED once by -3: " + text, x.count(7) + x.count(8) + 10 * x.count(9), 10);
        }
        DUE.is("YEAR 0", year(two(), "0"), 0);
        DUE.is("YEAR 999", year(two(), "999"), 999);
    }

    /** "all is as it was ahead of it" */
    private static void wholly() {
        BoughtKin x = Land.rich();
        x.buy(2, 4, 4);
        DUE.is("REFUSED", Land.orders(x, "year 9;buy 0 for 2 by 4;buy 3 for 4 by 4;buy 1 for 2 by 4;year 1000"), -3);
        DUE.is("the last CLAUSE", x.stopped(), 4);
        DUE.is("YEAR", x.count(13), 500);
        DUE.is("PURSE", x.of(4, 2), 900);
        DUE.is("CHESTS", x.chest(0) + x.chest(1) + x.chest(3), 0);
        DUE.is("SOLD", x.count(1), 1);
        DUE.is("LINE", x.line(4, 0), 4);
        DUE.is("FATHER, MOTHER", x.of(2, 7) + x.of(2, 8) + x.of(4, 8), -3);
        DUE.is("can be undone", x.count(5), 1);
        DUE.is("what was ahead is undone", x.undo(), 2);
        DUE.is("PURSE behind that", x.of(4, 2), 1000);
        DUE.is("the 20th time can't be", Land.orders(x, "year now - 30 times 17"), -3);
        DUE.is("YEAR still", x.count(13), 500);
    }

    /** Promise 8: "NONE, if there would be more than 400." */
    private static void feedTooMuch() {
        BoughtKin x = new BoughtKin();
        for (int size = 20; size <= 400; size += 20) {
            DUE.is("8: feed", x.feed(0, 0, 0, 0, 0), size);
        }
        DUE.is("8: 420", x.feed(1, 1, 1, 1, 1), -1);
        DUE.is("8: still 400", x.count(6), 400);
        for (int size : new int[] {399, 390, 381}) {
            x.end(size);
            DUE.is("8: behind " + size, x.feed(1, 1, 1, 1, 1), -1);
            DUE.is("8: still " + size, x.count(6), size);
        }
        x.end(380);
        DUE.is("8: just 400", x.feed(1, 1, 1, 1, 1), 400);
        DUE.is("8: NONE is no refusal", x.count(7) + x.count(10) + x.status(), 0);
    }

    /** Promise 8: "four of each number, the highest first", also of numbers below 0. */
    private static void bytesOfNumbers() {
        BoughtKin x = new BoughtKin();
        // 1, 3, 231, 120, 5 | 0, 0, 255, 1, 0 | 1, 1, 128, 2, 1 | 0, 2, 127, 3, 2
        x.feed(0x0103E778, 0x050000FF, 0x01000101, 0x80020100, 0x027F0302);
        DUE.is("8: all are PEOPLE", x.row(), 4);
        int[] born = {999, 255, 384, 639};
        int[] lived = {120, 1, 2, 3};
        for (int i = 0; i < 4; i++) {
            DUE.is("8: BORN of " + i, x.of(i, 4), born[i]);
            DUE.is("8: LIVED of " + i, x.of(i, 5), lived[i]);
        }
        x.feed(-1, Land.LOW, Land.HIGH, -256, -65536);
        DUE.is("8: bytes of 255 are no PEOPLE", x.row(), 0);
        DUE.is("8: four of them", x.mould(), 4);
    }

    /** Promise 9: "NONE, if it has not so many, or n is below 0." */
    private static void endTooFar() {
        BoughtKin x = new BoughtKin();
        DUE.is("9: 0 of an empty TAPE", x.end(0), 0);
        DUE.is("9: 1 of an empty TAPE", x.end(1), -1);
        x.feed(0, 0, 0, 0, 0);
        for (int n : Land.outside(0, 20)) {
            DUE.is("9: n " + n, x.end(n), -1);
        }
        DUE.is("9: still 20", x.count(6), 20);
        DUE.is("9: all", x.end(20), 20);
        DUE.is("9: one less", x.end(19), 19);
        DUE.is("9: 20 are gone", x.end(20), -1);
        DUE.is("9: none", x.end(0), 0);
        DUE.is("9: empty", x.count(6), 0);
        DUE.is("9: NONE is no refusal", x.count(7) + x.status(), 0);
    }

    /** Promise 9: "The TAPE has its first n bytes alone" */
    private static void endKeepsTheFirst() {
        BoughtKin x = new BoughtKin();
        x.feed(0x62617273, 0x3f3f3f3f, 0, 0, 0);
        x.end(4);
        x.feed(0x3b626172, 0x73202020, 0x20202020, 0x20202020, 0x20202020);
        DUE.is("9: what is fed comes behind the first", x.law(), 0);
        DUE.is("9: no FAULT", x.fault(), -1);
    }

    /** Promise 10: "-6 the TAPE is empty." */
    private static void rowOfNothing() {
        BoughtKin x = new BoughtKin();
        DUE.is("10: a new TAPE", x.row(), -6);
        x.feed(0, 0, 0, 0, 0);
        x.end(0);
        DUE.is("10: ended at 0", x.row(), -6);
        x.feed(0, 0, 0, 0, 0);
        DUE.is("10: four", x.row(), 4);
        DUE.is("10: empty then", x.row(), -6);
        DUE.is("10: refused", x.status(), -6);
        DUE.is("10: three times", x.count(11), 3);
        DUE.is("10: no more PEOPLE", x.count(0), 4);
    }

    /** IV: "one that can't be .. is MOULD: none." */
    private static void rowThatCannotBe() {
        int[][] fives = {{2, 0, 0, 0, 0}, {255, 0, 0, 0, 0}, {0, 3, 232, 0, 0}, {0, 4, 0, 0, 0}, {0, 255, 255, 0, 0},
            {0, 128, 0, 0, 0}, {0, 0, 0, 121, 0}, {0, 0, 0, 255, 0}, {0, 0, 0, 0, 6}, {0, 0, 0, 0, 255}};
        for (int[] five : fives) {
            BoughtKin x = new BoughtKin();
            byte[] bytes = new byte[10];
            for (int i = 0; i < 5; i++) {
                bytes[i] = (byte) five[i];
            }
            bytes[5] = 1;
            Feeding.put(x, bytes);
            DUE.is("10: the one behind comes", x.row(), 1);
            DUE.is("11: one is MOULD", x.mould(), 1);
            DUE.is("10: it is the one behind", x.of(0, 3), 1);
        }
        BoughtKin y = new BoughtKin();
        Feeding.put(y, new byte[] {1, 3, (byte) 231, 120, 5, 0, 0, 0, 0, 0});
        DUE.is("10: the most and the least", y.row(), 2);
        DUE.is("11: no MOULD", y.mould(), 0);
        DUE.is("10: BORN 999", y.of(0, 4), 999);
    }

    /** IV: "one within which the TAPE ends" */
    private static void rowCutOff() {
        for (int size = 1; size <= 11; size++) {
            BoughtKin x = new BoughtKin();
            Feeding.put(x, new byte[size]);
            DUE.is("10: whole ones of " + size, x.row(), size / 5);
            DUE.is("11: cut ones of " + size, x.mould(), size % 5 == 0 ? 0 : 1);
        }
    }

    /** IV: "one for which there is no room" */
    private static void rowWithoutRoom() {
        BoughtKin x = new BoughtKin();
        Feeding.put(x, new byte[400]);
        DUE.is("10: sixteen come", x.row(), 16);
        DUE.is("11: 64 have no room", x.mould(), 64);
        DUE.is("10: that is no refusal", x.status(), 0);
        Feeding.put(x, new byte[6]);
        DUE.is("10: none", x.row(), 0);
        DUE.is("11: without room, and cut off", x.mould(), 2);
        BoughtKin y = Land.men(15);
        Feeding.put(y, new byte[] {9, 0, 0, 0, 0, 1, 0, 0, 0, 0, 0, 0, 0, 0, 0});
        DUE.is("10: the last place", y.row(), 1);
        DUE.is("10: taken by the first that can be", y.of(15, 3), 1);
        DUE.is("11: ahead and behind", y.mould(), 2);
    }

    /** Promise 11: "the latest row() .. that was not REFUSED (0 ahead of any)" */
    private static void mouldOfTheLatest() {
        BoughtKin x = new BoughtKin();
        DUE.is("11: ahead of any", x.mould(), 0);
        x.row();
        DUE.is("11: REFUSED ahead of any", x.mould(), 0);
        Feeding.put(x, new byte[] {9, 9, 9, 9, 9, 9});
        x.row();
        DUE.is("11: two", x.mould(), 2);
        x.row();
        DUE.is("11: REFUSED", x.mould(), 2);
        Feeding.put(x, new byte[5]);
        x.row();
        DUE.is("11: none", x.mould(), 0);
    }

    /** Promise 12: "-5 (ahead of reading it; the TAPE is empty then, too)" */
    private static void lawWithoutRoom() {
        BoughtKin x = new BoughtKin();
        Land.orders(x, "year ?");
        for (int i = 0; i < 6; i++) {
            Land.law(x, "bars");
        }
        Land.orders(x, "year ?");
        DUE.is("12: FAULT of the ORDERS", x.fault(), 5);
        Feeding.put(x, "bars");
        DUE.is("12: no room", x.law(), -5);
        DUE.is("12: FAULT is still that", x.fault(), 5);
        DUE.is("12: the TAPE is empty", x.count(6), 0);
        DUE.is("12: no room for nothing", x.law(), -5);
        DUE.is("12: REFUSED by -5", x.count(10), 2);
        DUE.is("12: by -6 the ORDERS alone", x.count(11), 2);
    }

    /** Promise 12: "-6 (blanks alone: FAULT at the end)" */
    private static void lawOfBlanks() {
        lawFault("", 0);
        lawFault(" ", 1);
        lawFault(times(" ", 20), 20);
        lawFault(times(" ", 400), 400);
        BoughtKin x = new BoughtKin();
        Feeding.put(x, "bars x");
        DUE.is("12: -6", x.law(), -6);
        DUE.is("12: the TAPE is empty then, too", x.count(6), 0);
        DUE.is("12: no LAW", x.count(4), 0);
        Feeding.put(x, "bars");
        DUE.is("12: the number is not used up", x.law(), 0);
    }

    /** Promise 13: "-6 (as for law())" */
    private static void ordersOfBlanks() {
        ordersFault("", 0);
        ordersFault(" ", 1);
        ordersFault(times(" ", 400), 400);
        BoughtKin x = two();
        DUE.is("13: -6", Land.orders(x, "year 1;year 2;x"), -6);
        DUE.is("13: the TAPE is empty then, too", x.count(6), 0);
        DUE.is("13: nothing was run", x.count(13), 444);
        DUE.is("13: -3, and the TAPE is empty", Land.orders(x, "year 1000") * 10 + x.count(6), -30);
    }

    /** Promise 14: "FAULT of the latest law(), orders() that read a TEXT: its place; NONE without." */
    private static void faultOfTheLatest() {
        BoughtKin x = two();
        DUE.is("14: ahead of any", x.fault(), -1);
        Land.law(x, "price ?");
        DUE.is("14: of a law", x.fault(), 6);
        Land.orders(x, "year ?");
        DUE.is("14: of orders", x.fault(), 5);
        Land.law(x, "bars");
        DUE.is("14: without", x.fault(), -1);
        Land.law(x, "");
        DUE.is("14: of an empty TEXT", x.fault(), 0);
        Land.orders(x, "year 1000");
        DUE.is("14: ORDERS that can't be have none", x.fault(), -1);
        Land.orders(x, "y");
        x.row();
        DUE.is("14: row() does not matter", x.fault(), 0);
    }

    /** Promise 15: "Which CLAUSE of the latest orders() could not be. NONE." */
    private static void stoppedAtTheLatest() {
        BoughtKin x = two();
        DUE.is("15: ahead of any", x.stopped(), -1);
        Land.orders(x, "year 1000");
        DUE.is("15: the first", x.stopped(), 0);
        Land.orders(x, times("year 1;", 11) + "year 1000");
        DUE.is("15: the last", x.stopped(), 11);
        Land.orders(x, "year 1");
        DUE.is("15: none could not be", x.stopped(), -1);
        Land.orders(x, "year 1;year now - 1 times 3");
        DUE.is("15: the CLAUSE, not the time", x.stopped(), 1);
        Land.orders(x, "year");
        DUE.is("15: none was run", x.stopped(), -1);
    }

    /** Promise 16: "(NONE: none): which was. -2." */
    private static void forceOfNoLaw() {
        BoughtKin x = new BoughtKin();
        DUE.is("16: NONE was", x.force(-1), -1);
        DUE.is("16: that is no refusal", x.status(), 0);
        DUE.is("16: no LAW 0", x.force(0), -2);
        for (int i = 0; i < 6; i++) {
            Feeding.put(x, "bars");
            x.law();
        }
        DUE.is("16: the last LAW", x.force(5), -1);
        for (int law : new int[] {-2, 6, 7, Land.LOW, Land.HIGH, 65536, -65536, 256}) {
            DUE.is("16: no LAW " + law, x.force(law), -2);
        }
        DUE.is("16: which was", x.force(-1), 5);
        DUE.is("16: none is", x.count(12), -1);
    }

    private static void terms() {
        fullTape();
        letters();
        digits();
        otherBytes();
        blanks();
        clauses();
        numbers();
        parts();
        brackets();
        partsAndBracketsOfEachText();
        notOfNot();
        faultAtTheEnd();
        beyondMilliard();
        dividedByNothing();
        cutTowardsNothing();
        onlyIfItMatters();
        sixLaws();
        noLawInForce();
        ageOfTheOlder();
        ageAndOwnOfOneWhoRanks();
        clausesThatHold();
        priceWithin();
        priceWithout();
        rankWithin();
        timesOfAClause();
        peopleInOrders();
        partsOfOrders();
        ordersNotRun();
        doneInThisText();
        lastInThisText();
        wordsOfNobody();
        ordersThatCannotBe();
        wholly();
    }

    private static void promises() {
        feedTooMuch();
        bytesOfNumbers();
        endTooFar();
        endKeepsTheFirst();
        rowOfNothing();
        rowThatCannotBe();
        rowCutOff();
        rowWithoutRoom();
        mouldOfTheLatest();
        lawWithoutRoom();
        lawOfBlanks();
        ordersOfBlanks();
        faultOfTheLatest();
        stoppedAtTheLatest();
        forceOfNoLaw();
    }

    public static void main(String[] args) {
        terms();
        promises();
        DUE.end();
    }
}
