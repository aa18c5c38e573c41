/** Both languages by hand: tokens, faults, limits, broken sums, what words tell. */
public final class TextsTest {
    private static final Due DUE = new Due();

    private static String times(String text, int n) {
        StringBuilder sb = new StringBuilder();
        for (int i = 0; i < n; i++) {
            sb.append(text);
        }
        return sb.toString();
    }

    private static void lawFault(String text, int want) {
        BoughtKin x = new BoughtKin();
        Feeding.put(x, text);
        DUE.is("law of '" + text + "'", x.law(), want == -1 ? 0 : -6);
        DUE.is("fault of '" + text + "'", x.fault(), want);
    }

    private static void ordersFault(String text, int want) {
        BoughtKin x = new BoughtKin();
        Feeding.put(x, text);
        int answer = x.orders();
        DUE.is("orders of '" + text + "'", answer == -6 ? -6 : 0, want == -1 ? 0 : -6);
        DUE.is("fault of '" + text + "'", x.fault(), want);
    }

    /** What a law's price tells of person 0 (born 400) as a parent for 1 (born 430); 100 if it does not hold. */
    private static int price(String sum) {
        BoughtKin x = people();
        Feeding.put(x, "price " + sum);
        x.force(x.law());
        return x.asks(0, 1, 0);
    }

    private static int holds(String test) {
        BoughtKin x = people();
        Feeding.put(x, "bars if " + test);
        x.force(x.law());
        return x.asks(0, 1, 1);
    }

    private static BoughtKin people() {
        BoughtKin x = new BoughtKin();
        x.person(0, 400, 60, 3);
        x.person(1, 430, 70, 5);
        x.put(0, 1, 17);
        x.terms(0, 444);
        x.terms(3, 8);
        return x;
    }

    private static void tokens() {
        lawFault("bars", -1);
        lawFault("   bars   ", -1);
        lawFault("price1", -1);
        lawFault("price 1if 1=1", -1);
        lawFault("price[1]", -1);
        lawFault("pricea 1", 0);
        lawFault("Price 1", 0);
        lawFault("barsz", 0);
        lawFault("abars", 0);
        lawFault("bars`", 4);
        lawFault("bars{", 4);
        lawFault("price 1/0", -1);
        lawFault("price 1:", 7);
        lawFault("price 19", -1);
        lawFault("price 10 9", 9);
        lawFault(" \tbars", 1);
        lawFault("bars\n", 4);
        lawFault("bars if1<2and3>2or not4=5", -1);
        lawFault("price 0001000", -1);
        lawFault("price 1001", 6);
        lawFault("price " + times("9", 60), 6);
        lawFault("price " + times("0", 60), -1);
        lawFault("price 1 " + (char) 200, 8);
        lawFault("price born(", 10);
        lawFault("price born lived", 11);
        lawFault("bars if borno < 1", 8);
        lawFault("bars if bor < 1", 8);
    }

    private static void faults() {
        lawFault("", 0);
        lawFault("   ", 3);
        lawFault("price", 5);
        lawFault("price  ", 7);
        lawFault("price ;", 6);
        lawFault("price 1;", 8);
        lawFault("price 1; ", 9);
        lawFault(";", 0);
        lawFault("price 1 if", 10);
        lawFault("price 1 if 2", 12);
        lawFault("price 1 if 2 <", 14);
        lawFault("price 1 if 2 < 3 <", 17);
        lawFault("price 1 if (2 < 3", 17);
        lawFault("price 1 if (2 < 3]", 17);
        lawFault("price 1 if (2) < 3", 13);
        lawFault("price 1 if [2] < 3", -1);
        lawFault("price 1 if [2 < 3]", 14);
        lawFault("price (1)", 6);
        lawFault("price [1", 8);
        lawFault("price [1)", 8);
        lawFault("price []", 7);
        lawFault("price -1", 6);
        lawFault("price 1 - - 1", 10);
        lawFault("price 1 +", 9);
        lawFault("price 1 if not", 14);
        lawFault("price 1 if not not 1 = 1", -1);
        lawFault("price not 1", 6);
        lawFault("price 1 if 1 = 1 and", 20);
        lawFault("price 1 if 1 = 1 or or", 20);
        lawFault("price 1 if 1 = 1 if 1 = 1", 17);
        lawFault("bars born", 5);
        lawFault("ranks", 5);
        lawFault("buy 1 for 2 by 3", 0);
        lawFault("price now", 6);
        lawFault("price price", 6);
        lawFault("price if", 6);
        lawFault("price 1 times 2", 8);
        ordersFault("price 1", 0);
        ordersFault("year year", 5);
        ordersFault("year mood", 5);
        ordersFault("year now", -1);
        ordersFault("buy 1 by 2", 6);
        ordersFault("buy 1 for 2 for 3", 12);
        ordersFault("buy 1 for 2 by", 14);
        ordersFault("buy 1 for 2 by 3", -1);
        ordersFault("year 1 times 20", -1);
        ordersFault("year 1 times 21", 13);
        ordersFault("year 1 times 0", 13);
        ordersFault("year 1 times now", 13);
        ordersFault("year 1 times", 12);
        ordersFault("year 1 times 2 times 2", 15);
        ordersFault("year 1 if 1 = 1 times 2", 16);
        ordersFault("year 1 times 2 if 1 = 1", -1);
        ordersFault("year purse", 10);
        ordersFault("year purse 15", -1);
        ordersFault("year purse 16", 11);
        ordersFault("year purse now", 11);
        ordersFault("year purse [1]", 11);
        ordersFault("year kin 1", 10);
        ordersFault("year kin 1 2", -1);
        ordersFault("year kin 1 16", 11);
        ordersFault("year kin1 2+purse3", -1);
        ordersFault("bars", 0);
    }

    private static void limits() {
        lawFault(times("bars;", 11) + "bars", -1);
        lawFault(times("bars;", 12) + "bars", 60);
        lawFault(times("bars;", 12), 60);
        lawFault(times("bars;", 12) + "  x", 62);
        lawFault(times("bars;", 11) + "bars x", 60);
        ordersFault(times("year 1;", 12) + "year 1", 84);
        lawFault("price 1" + times("+1", 49), -1);
        lawFault("price 1" + times("+1", 50), 106);
        lawFault("price 1" + times("+1", 49) + "+", 106);
        lawFault("price 1" + times("+1", 49) + "+[", 107);
        lawFault("price 1" + times("+1", 49) + " if", 108);
        lawFault("price 1" + times("+1", 49) + " if born < 1", 109);
        lawFault("price 1" + times("+1", 40) + ";price 1" + times("+1", 8), -1);
        lawFault("price 1" + times("+1", 40) + ";price 1" + times("+1", 9), 112);
        ordersFault("year 1" + times("+kin 1 2", 44), -1);
        ordersFault("year 1" + times("+purse 3", 48) + "+1", -1);
        ordersFault("year 1" + times("+1", 49) + " times 3", -1);
        lawFault("price " + times("[", 8) + "1" + times("]", 8), -1);
        lawFault("price " + times("[", 9) + "1" + times("]", 9), 14);
        lawFault("bars if " + times("(", 8) + "1=1" + times(")", 8), -1);
        lawFault("bars if " + times("(", 8) + "[1]=1" + times(")", 8), 16);
        lawFault("bars if " + times("(", 7) + "[1]=[1]" + times(")", 7), -1);
        lawFault("bars if " + times("(", 9), 16);
        lawFault("price " + times("[[1]]+", 20) + "1", -1);
        lawFault("bars if " + times("not ", 96) + "1=1", -1);
        lawFault("bars if " + times("not(", 8) + "1=1" + times(")", 8), -1);
        DUE.is("96 times not", holds(times("not ", 96) + "1=1"), 1);
        DUE.is("95 times not", holds(times("not ", 95) + "1=1"), 0);
        DUE.is("48 sums of nothing", price(times("1-", 48) + "1"), 0);
        DUE.is("deep", price(times("[1+", 8) + "1" + times("]", 8)), 9);
    }

    private static void sums() {
        DUE.is("by rank", price("2 + 3 * 4"), 14);
        DUE.is("brackets", price("[2 + 3] * 4"), 20);
        DUE.is("from the left", price("20 - 5 - 4"), 11);
        DUE.is("from the left, too", price("100 / 5 / 2"), 10);
        DUE.is("mixed", price("100 / 7 * 7"), 98);
        DUE.is("rest", price("17 % 5 * 10"), 20);
        DUE.is("cut towards 0", price("10 + [0 - 7] / 2"), 7);
        DUE.is("what is left then", price("10 + [0 - 7] % 2"), 9);
        DUE.is("by what is below 0", price("10 + 7 / [0 - 2]"), 7);
        DUE.is("rest by what is below 0", price("10 + 7 % [0 - 2]"), 11);
        DUE.is("by 0", price("7 / 0"), 100);
        DUE.is("rest by 0", price("7 % 0"), 100);
        DUE.is("by what is 0", price("7 / [noble * 3]"), 100);
        DUE.is("just a milliard", price("1000 * 1000 * 1000"), 9999);
        DUE.is("just below 0", price("0 - 1000 * 1000 * 1000"), 0);
        DUE.is("beyond", price("1000 * 1000 * 1000 + 1"), 100);
        DUE.is("beyond on the way", price("1000 * 1000 * 1000 + 1 - 1"), 100);
        DUE.is("beyond below", price("0 - 1000 * 1000 * 1000 - 1"), 100);
        DUE.is("far beyond", price("[1000 * 1000 * 1000] * [1000 * 1000 * 1000]"), 100);
        DUE.is("back in time", price("1000 * 1000 * 1000 / 1000 / 1000 - 993"), 7);
        DUE.is("times 0 is broken still", price("[1 / 0] * 0"), 100);
    }

    private static void tests() {
        DUE.is("<", holds("1 < 2"), 1);
        DUE.is("not <", holds("2 < 2"), 0);
        DUE.is(">", holds("3 > 2"), 1);
        DUE.is("not >", holds("2 > 2"), 0);
        DUE.is("=", holds("2 = 2"), 1);
        DUE.is("not =", holds("2 = 3"), 0);
        DUE.is("and ahead of or", holds("1 = 1 or 1 = 2 and 1 = 2"), 1);
        DUE.is("brackets", holds("(1 = 1 or 1 = 2) and 1 = 2"), 0);
        DUE.is("not binds nearest", holds("not 1 = 2 and 1 = 1"), 1);
        DUE.is("not of and", holds("not (1 = 1 and 1 = 1)"), 0);
        DUE.is("or not asked", holds("1 = 1 or 1 / 0 = 1"), 1);
        DUE.is("or asked", holds("1 = 2 or 1 / 0 = 1"), 0);
        DUE.is("and not asked", holds("not (1 = 2 and 1 / 0 = 1)"), 1);
        DUE.is("and asked", holds("not (1 = 1 and 1 / 0 = 1)"), 0);
        DUE.is("broken ahead of or", holds("1 / 0 = 1 or 1 = 1"), 0);
        DUE.is("broken ahead of and", holds("not (1 / 0 = 1 and 1 = 2)"), 0);
        DUE.is("not broken", holds("not 1 / 0 = 1"), 0);
        DUE.is("and, then or", holds("1 = 2 and 1 / 0 = 1 or 1 = 1"), 1);
        DUE.is("or, or", holds("1 = 2 or 1 = 1 or 1 / 0 = 1"), 1);
        DUE.is("and, and", holds("1 = 1 and 1 = 2 and 1 / 0 = 1 or 3 = 3"), 1);
    }

    private static void lawWords() {
        DUE.is("born", price("born"), 400);
        DUE.is("lived", price("lived"), 60);
        DUE.is("noble", price("noble"), 0);
        DUE.is("debt", price("debt"), 17);
        DUE.is("family", price("family"), 3);
        DUE.is("side", price("side + 5"), 5);
        DUE.is("age", price("age"), 30);
        DUE.is("own", price("own"), 5);
        DUE.is("year", price("year"), 444);
        DUE.is("mood", price("mood"), 8);
        BoughtKin x = people();
        x.put(1, 0, 1);
        Feeding.put(x, "ranks 0 - age * 10 - own; price 50 + age + side");
        x.force(x.law());
        DUE.is("age and own of one who ranks", x.of(0, 10), 11);
        DUE.is("an age below 0, the side of the parent", x.asks(1, 0, 0), 50 - 30 + 1);
        Feeding.put(x, "ranks noble * 7 + side; bars if year > 444; price 5 if mood = 9");
        x.force(x.law());
        DUE.is("noble and side of one who ranks", x.of(1, 10), 8);
        DUE.is("year", x.asks(0, 1, 1), 0);
        x.terms(0, 445);
        DUE.is("year later", x.asks(0, 1, 1), 1);
        DUE.is("mood 8", x.asks(0, 1, 0), 100);
        x.terms(3, 9);
        DUE.is("mood 9", x.asks(0, 1, 0), 5);
        Feeding.put(x, "ranks 5; ranks 6 if side = 0; ranks 1 / 0");
        x.force(x.law());
        DUE.is("the last ranks", x.of(0, 10), 6);
        DUE.is("that holds", x.of(1, 10), 5);
        Feeding.put(x, "bars if 1 = 1; bars if 1 = 2; bars if 1 / 0 = 1");
        x.force(x.law());
        DUE.is("any bars", x.asks(0, 1, 1), 1);
        DUE.is("ranks as noble without", x.of(1, 10), 1);
    }

    private static int year(BoughtKin x, String sum) {
        Feeding.put(x, "year " + sum);
        int answer = x.orders();
        return answer < 0 ? answer : x.count(13);
    }

    private static void orderWords() {
        BoughtKin x = people();
        x.put(1, 2, 345);
        DUE.is("now", year(x, "now + 1"), 445);
        DUE.is("people", year(x, "people"), 2);
        DUE.is("done", year(x, "done + 9;year now * 10 + done"), 91);
        DUE.is("done, none", year(x, "done + 9"), 9);
        DUE.is("last", year(x, "last + 10"), 9);
        DUE.is("purse", year(x, "purse 1"), 345);
        DUE.is("purse of nobody", year(x, "purse 2 + 10"), 9);
        DUE.is("kin, not", year(x, "kin 0 1 + 10"), 9);
        DUE.is("kin of nobody", year(x, "kin 0 2 + 10"), 9);
        DUE.is("kin of oneself", year(x, "kin 1 1 + 10"), 10);
        DUE.is("kin of the first one", year(x, "kin 0 0 + 10"), 10);
        DUE.is("purse of the first one", year(x, "purse 0 + 10"), 10);
        DUE.is("kin of nobody at all", year(x, "kin 15 15 + 10"), 9);
        DUE.is("purse of nobody at all", year(x, "purse 15 + 10"), 9);
        x.image(0);
        x.person(0, 460, 60, 1);
        x.parent(0, 2);
        x.put(2, 2, 77);
        DUE.is("kin of another one", year(x, "kin 0 2 + 10"), 11);
        x.back(0);
        DUE.is("kin of one who is gone", year(x, "kin 0 2 + 10"), 9);
        DUE.is("kin to one who is gone", year(x, "kin 2 0 + 10"), 9);
        DUE.is("purse of one who is gone", year(x, "purse 2 + 10"), 9);
        Feeding.put(x, "buy 0 for 1 by 1 if last = 0 - 1;year last + kin 0 1 + purse 1 + done if last = 100");
        DUE.is("bought in it", x.orders(), 2);
        DUE.is("words behind it", x.count(13), 100 + 1 + 245 + 1);
        DUE.is("last is of this text alone", year(x, "last + 10"), 9);
        BoughtKin y = new BoughtKin();
        for (int i = 0; i < 6; i++) {
            y.person(0, 400 + 20 * i, 60, 0);
        }
        y.put(5, 2, 9999);
        Feeding.put(y, "buy 4 - done for 5 - done by 5 times 5");
        DUE.is("a line by times", y.orders(), 5);
        DUE.is("the line", y.line(5, 0), 31);
        DUE.is("the purse", y.of(5, 2), 9499);
        DUE.is("all can be undone", y.count(5), 5);
        BoughtKin z = new BoughtKin();
        z.person(0, 400, 60, 0);
        z.person(0, 430, 60, 0);
        z.put(1, 2, 500);
        Feeding.put(z, "year 7;buy 0 for 1 by 1 times 2;year 8");
        DUE.is("the second time can't be", z.orders(), -3);
        DUE.is("which clause", z.stopped(), 1);
        DUE.is("not sold", z.count(1), 0);
        DUE.is("year", z.count(13), 500);
        Feeding.put(z, "year 7;buy 0 for 1 by 1 times 2 if last < 0;year 8");
        DUE.is("asked each time", z.orders(), 3);
        DUE.is("sold", z.count(1), 1);
    }

    public static void main(String[] args) {
        tokens();
        faults();
        limits();
        sums();
        tests();
        lawWords();
        orderWords();
        DUE.end();
    }
}
