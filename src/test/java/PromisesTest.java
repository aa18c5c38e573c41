/** Each promise of the document by hand: ordinary inputs, the edges that it names, wrong inputs. */
public final class PromisesTest {
    private static final int LOW = Land.LOW;
    private static final int HIGH = Land.HIGH;
    private static final Due DUE = new Due();

    private static void promise1NewObject() {
        BoughtKin x = new BoughtKin();
        for (int what = 0; what <= 11; what++) {
            DUE.is("1: count(" + what + ")", x.count(what), 0);
        }
        DUE.is("1: count(12)", x.count(12), -1);
        DUE.is("1: YEAR", x.count(13), 500);
        DUE.is("1: BAN", x.count(14), 4);
        DUE.is("1: GAP", x.count(15), 16);
        DUE.is("1: MOOD", x.count(16), 0);
        for (int house = 0; house < 6; house++) {
            DUE.is("1: chest", x.chest(house), 0);
        }
        DUE.is("1: fault()", x.fault(), -1);
        DUE.is("1: stopped()", x.stopped(), -1);
        DUE.is("1: mould()", x.mould(), 0);
        DUE.is("1: status()", x.status(), 0);
        DUE.is("1: forged()", x.forged(), 0);
        DUE.is("1: lies(1)", x.lies(1), 0);
        DUE.is("1: secret(-1)", x.secret(-1), 0);
        DUE.is("1: drawn(0, 0)", x.drawn(0, 0), -1);
        DUE.is("1: NONE", BoughtKin.NONE, -1);
        new BoughtKin().person(0, 1, 1, 1);
        DUE.is("1: another object's people", x.count(0), 0);
    }

    private static void promise2Person() {
        BoughtKin x = new BoughtKin();
        DUE.is("2: least", x.person(0, 0, 0, 0), 0);
        DUE.is("2: most", x.person(1, 999, 120, 5), 1);
        DUE.is("2: sex", x.person(2, 0, 0, 0), -1);
        DUE.is("2: sex below", x.person(-1, 0, 0, 0), -1);
        DUE.is("2: born", x.person(0, 1000, 0, 0), -1);
        DUE.is("2: born below", x.person(0, -1, 0, 0), -1);
        DUE.is("2: lived", x.person(0, 0, 121, 0), -1);
        DUE.is("2: lived below", x.person(0, 0, -1, 0), -1);
        DUE.is("2: house", x.person(0, 0, 0, 6), -1);
        DUE.is("2: house below", x.person(0, 0, 0, -1), -1);
        DUE.is("2: wild", x.person(LOW, HIGH, LOW, HIGH), -1);
        for (int i = 2; i < 16; i++) {
            DUE.is("2: number", x.person(0, i, 1, 2), i);
        }
        DUE.is("2: no room", x.person(0, 0, 0, 0), -5);
        DUE.is("2: -1 ahead of -5", x.person(3, 0, 0, 0), -1);
        DUE.is("2: people", x.count(0), 16);
        for (int what : new int[] {0, 1, 2, 9}) {
            DUE.is("2: at first", x.of(1, what), 0);
        }
        DUE.is("2: no father", x.of(1, 7), -1);
        DUE.is("2: no mother", x.of(1, 8), -1);
    }

    private static void promise3Put() {
        BoughtKin x = Land.generations();
        DUE.is("3: noble", x.put(0, 0, 1), 0);
        DUE.is("3: noble was", x.put(0, 0, 0), 1);
        DUE.is("3: debt", x.put(1, 1, 99), 0);
        DUE.is("3: debt was", x.put(1, 1, 5), 99);
        DUE.is("3: purse", x.put(2, 2, 9999), 0);
        DUE.is("3: purse was", x.put(2, 2, 0), 9999);
        DUE.is("3: noble 2", x.put(0, 0, 2), -1);
        DUE.is("3: debt 100", x.put(0, 1, 100), -1);
        DUE.is("3: purse 10000", x.put(0, 2, 10000), -1);
        DUE.is("3: below 0", x.put(0, 2, -1), -1);
        DUE.is("3: what 3", x.put(0, 3, 0), -1);
        DUE.is("3: what -1", x.put(0, -1, 0), -1);
        DUE.is("3: nobody", x.put(8, 0, 1), -2);
        DUE.is("3: nobody below", x.put(-1, 0, 1), -2);
        DUE.is("3: -1 ahead of -2", x.put(8, 0, 2), -1);
        DUE.is("3: as it was", x.of(2, 2), 0);
    }

    private static void promise4Of() {
        BoughtKin x = Land.generations();
        x.put(3, 0, 1);
        x.put(3, 1, 7);
        x.put(3, 2, 300);
        x.parent(0, 3);
        x.buy(1, 3, 3);
        int[] want = {1, 7, 200, 1, 430, 80, 3, 0, 1, 0, 1};
        for (int what = 0; what < want.length; what++) {
            DUE.is("4: of(3, " + what + ")", x.of(3, what), want[what]);
        }
        DUE.is("4: sold", x.of(1, 9), 1);
        DUE.is("4: by birth is not sold", x.of(0, 9), 0);
        DUE.is("4: rank", x.of(0, 10), 0);
        Land.law(x, "ranks 120 if side = 0; ranks 3 - 5 if side = 1");
        DUE.is("4: rank to 99", x.of(0, 10), 99);
        DUE.is("4: rank from 0", x.of(3, 10), 0);
        DUE.is("4: what 11", x.of(3, 11), -1);
        DUE.is("4: what -1", x.of(3, -1), -1);
        DUE.is("4: nobody", x.of(8, 0), -1);
        DUE.is("4: nobody below", x.of(LOW, 0), -1);
    }

    private static void promise5Parent() {
        BoughtKin x = Land.generations();
        DUE.is("5: father", x.parent(0, 2), 0);
        DUE.is("5: mother", x.parent(1, 2), 0);
        DUE.is("5: has one", x.parent(4, 2), -3);
        DUE.is("5: the same one", x.parent(3, 3), -3);
        DUE.is("5: one in the line", x.parent(2, 4), 0);
        DUE.is("5: a ring", x.parent(4, 0), -3);
        DUE.is("5: a small ring", x.parent(2, 0), -3);
        DUE.is("5: dates do not matter", x.parent(7, 0), 0);
        DUE.is("5: the line is up to date", x.line(4, 0), 1 | 2 | 4 | 128);
        DUE.is("5: nobody", x.parent(8, 0), -2);
        DUE.is("5: no child", x.parent(0, -1), -2);
        DUE.is("5: nobody ahead of the same one", x.parent(9, 9), -2);
        BoughtKin y = Land.rich();
        y.buy(2, 4, 4);
        DUE.is("5: a sold one by birth", y.parent(2, 5), 0);
        DUE.is("5: of two", y.line(2, 1), 1 << 4 | 1 << 5);
    }

    private static void promise6Terms() {
        BoughtKin x = new BoughtKin();
        int[] first = {500, 4, 16, 0};
        int[] least = {0, 0, 12, 0};
        int[] most = {999, 9, 40, 9};
        for (int what = 0; what < 4; what++) {
            DUE.is("6: was", x.terms(what, least[what]), first[what]);
            DUE.is("6: least", x.terms(what, most[what]), least[what]);
            DUE.is("6: below", x.terms(what, least[what] - 1), -1);
            DUE.is("6: above", x.terms(what, most[what] + 1), -1);
            DUE.is("6: stays", x.count(13 + what), most[what]);
        }
        DUE.is("6: what 4", x.terms(4, 0), -1);
        DUE.is("6: what -1", x.terms(-1, 0), -1);
    }

    private static void promise7Chest() {
        BoughtKin x = Land.rich();
        x.buy(2, 4, 4);
        DUE.is("7: paid", x.chest(2), 100);
        x.put(1, 0, 1);
        x.buy(1, 2, 4);
        DUE.is("7: of the parent's family", x.chest(1), 200);
        DUE.is("7: of the others", x.chest(0), 0);
        DUE.is("7: 6", x.chest(6), -1);
        DUE.is("7: -1", x.chest(-1), -1);
    }

    private static void promise8And9Tape() {
        BoughtKin x = new BoughtKin();
        for (int i = 1; i <= 20; i++) {
            DUE.is("8: feed", x.feed(LOW, -1, 0, 1, HIGH), 20 * i);
        }
        DUE.is("8: too much", x.feed(0, 0, 0, 0, 0), -1);
        DUE.is("8: stays", x.count(6), 400);
        DUE.is("9: too many", x.end(401), -1);
        DUE.is("9: below 0", x.end(-1), -1);
        DUE.is("9: all", x.end(400), 400);
        DUE.is("9: fewer", x.end(381), 381);
        DUE.is("8: would be 401", x.feed(0, 0, 0, 0, 0), -1);
        DUE.is("9: 380", x.end(380), 380);
        DUE.is("8: just 400", x.feed(0, 0, 0, 0, 0), 400);
        DUE.is("9: none", x.end(0), 0);
        DUE.is("9: not so many", x.end(1), -1);
        DUE.is("9: not refused", x.count(7), 0);
        DUE.is("9: status", x.status(), 0);
        x.feed(0x00000164, 0x02010063, 0x14030000, 0, 0);
        x.end(10);
        DUE.is("8: the highest byte first", x.row(), 2);
        DUE.is("8: born", x.of(0, 4), 1);
        DUE.is("8: lived", x.of(0, 5), 100);
    }

    private static void promise10And11Row() {
        BoughtKin x = new BoughtKin();
        DUE.is("10: empty", x.row(), -6);
        DUE.is("11: ahead of any", x.mould(), 0);
        Feeding.put(x, new byte[] {0, 3, (byte) 231, 120, 5, 1, 0, 0, 0, 0, 0, 3, (byte) 232, 1, 1, 0, 0, 0, 121, 0,
            0, 0, 0, 0, 6, 2, 0, 0, 0, 0, 0, 0, 0, 0});
        DUE.is("10: two can be", x.row(), 2);
        DUE.is("11: the others", x.mould(), 5);
        DUE.is("10: born 999", x.of(0, 4), 999);
        DUE.is("10: house", x.of(0, 6), 5);
        DUE.is("10: sex", x.of(1, 3), 1);
        DUE.is("10: the tape is empty", x.count(6), 0);
        DUE.is("10: refused", x.row(), -6);
        DUE.is("11: stays", x.mould(), 5);
        Feeding.put(x, new byte[] {9});
        DUE.is("10: nobody comes", x.row(), 0);
        DUE.is("10: and that is no refusal", x.status(), 0);
        DUE.is("11: one", x.mould(), 1);
        Feeding.put(x, new byte[100]);
        DUE.is("10: as many as there is room for", x.row(), 14);
        DUE.is("11: the others have no room", x.mould(), 6);
    }

    private static void promise12Law() {
        BoughtKin x = Land.generations();
        Feeding.put(x, "bars");
        DUE.is("12: law", x.law(), 0);
        DUE.is("12: the tape is empty", x.count(6), 0);
        DUE.is("12: not in force by itself", x.count(12), -1);
        DUE.is("12: empty", x.law(), -6);
        DUE.is("12: fault of nothing", x.fault(), 0);
        Feeding.put(x, "    ");
        DUE.is("12: blanks alone", x.law(), -6);
        DUE.is("12: fault at the end", x.fault(), 4);
        for (int i = 1; i < 6; i++) {
            Feeding.put(x, "price " + i);
            DUE.is("12: law", x.law(), i);
        }
        DUE.is("12: laws", x.count(4), 6);
        DUE.is("12: without fault", x.fault(), -1);
        Feeding.put(x, "?");
        DUE.is("12: no room", x.law(), -5);
        DUE.is("12: it was not read", x.fault(), -1);
        DUE.is("12: the tape is empty, too", x.count(6), 0);
        x.force(3);
        DUE.is("12: each tells its own", x.asks(0, 2, 0), 3);
        x.force(5);
        DUE.is("12: the last one", x.asks(0, 2, 0), 5);
    }

    private static void promise13Orders() {
        BoughtKin x = Land.rich();
        DUE.is("13: empty", x.orders(), -6);
        DUE.is("13: fault", x.fault(), 0);
        DUE.is("13: two", Land.orders(x, "buy 2 for 4 by 4; buy 0 for 2 by 4"), 2);
        DUE.is("13: who pays", x.of(4, 2), 800);
        DUE.is("13: line", x.line(4, 0), 5);
        DUE.is("13: can be undone", x.count(5), 2);
        DUE.is("13: wholly or not at all", Land.orders(x, "year 20; buy 3 for 4 by 4; buy 3 for 5 by 5"), -3);
        DUE.is("13: year", x.count(13), 500);
        DUE.is("13: not sold", x.of(3, 9), 0);
        DUE.is("13: purse", x.of(4, 2), 800);
        DUE.is("13: chest", x.chest(3), 0);
        DUE.is("13: can be undone still", x.count(5), 2);
        DUE.is("13: the tape is empty", x.count(6), 0);
        DUE.is("13: refused once", x.count(9), 1);
        DUE.is("13: nobody", Land.orders(x, "buy 99 for 4 by 4"), -3);
        DUE.is("13: nobody is refused by -3 there", x.count(8), 0);
        DUE.is("13: year 1000", Land.orders(x, "year 1000"), -3);
        DUE.is("13: year below 0", Land.orders(x, "year 0 - 1"), -3);
        DUE.is("13: year 999", Land.orders(x, "year 999"), 1);
        DUE.is("13: year 0", Land.orders(x, "year 0"), 1);
        DUE.is("13: broken sum", Land.orders(x, "year 1 / 0"), -3);
        DUE.is("13: not asked for", Land.orders(x, "year 1 / 0 if 1 = 2"), 0);
        DUE.is("13: a broken if", Land.orders(x, "year 5 if 1 / 0 = 1"), 0);
        DUE.is("13: times", Land.orders(x, "year now + 7 times 20"), 20);
        DUE.is("13: year 140", x.count(13), 140);
        DUE.is("13: if each time", Land.orders(x, "year now + 1 times 20 if now < 150"), 10);
        DUE.is("13: bought by the latest", x.undo(), 0);
        DUE.is("13: and the one ahead", x.undo(), 2);
        DUE.is("13: no more", x.undo(), -3);
        DUE.is("13: year is not undone", x.count(13), 150);
    }

    private static void promise14And15Fault() {
        BoughtKin x = Land.rich();
        Feeding.put(x, "price 5 5");
        x.law();
        DUE.is("14: of a law", x.fault(), 8);
        Land.orders(x, "year");
        DUE.is("14: of orders", x.fault(), 4);
        Land.orders(x, "year 1;year 2000");
        DUE.is("14: 2000 is too large", x.fault(), 12);
        Land.orders(x, "year 1;year 20;buy 3 for 3 by 3");
        DUE.is("14: none", x.fault(), -1);
        DUE.is("15: which", x.stopped(), 2);
        Feeding.put(x, "bars x");
        x.law();
        DUE.is("15: a law does not matter", x.stopped(), 2);
        Land.orders(x, "year 3");
        DUE.is("15: none", x.stopped(), -1);
        Land.orders(x, "year 1000");
        DUE.is("15: the first", x.stopped(), 0);
        Land.orders(x, "year");
        DUE.is("15: not run at all", x.stopped(), -1);
        x.image(0);
        Land.orders(x, "year 1000");
        Feeding.put(x, "price");
        x.law();
        x.back(0);
        DUE.is("14: images do not keep it", x.fault(), 5);
        DUE.is("15: images do not keep it", x.stopped(), 0);
    }

    private static void promise16Force() {
        BoughtKin x = Land.generations();
        DUE.is("16: there is none", x.force(0), -2);
        DUE.is("16: none to none", x.force(-1), -1);
        DUE.is("16: that is no refusal", x.status(), 0);
        Feeding.put(x, "price 7");
        x.law();
        DUE.is("16: none was", x.force(0), -1);
        DUE.is("16: in force", x.asks(0, 2, 0), 7);
        DUE.is("16: the same was", x.force(0), 0);
        DUE.is("16: no such", x.force(1), -2);
        DUE.is("16: below", x.force(-2), -2);
        DUE.is("16: stays", x.count(12), 0);
        DUE.is("16: none again", x.force(-1), 0);
        DUE.is("16: price", x.asks(0, 2, 0), 100);
    }

    private static void promise17Asks() {
        BoughtKin x = new BoughtKin();
        x.person(0, 400, 30, 1);
        x.person(1, 400, 30, 2);
        int[] born = {415, 416, 429, 430, 431, 399};
        int[] ofFather = {0, 1, 1, 1, 0, 0};
        int[] ofMother = {0, 1, 1, 0, 0, 0};
        for (int i = 0; i < born.length; i++) {
            x.person(0, born[i], 50, 3);
            DUE.is("17: father's " + born[i], x.asks(0, 2 + i, 2), ofFather[i]);
            DUE.is("17: mother's " + born[i], x.asks(1, 2 + i, 2), ofMother[i]);
        }
        x.terms(2, 15);
        DUE.is("17: gap 15", x.asks(1, 2, 2), 1);
        DUE.is("17: price", x.asks(0, 2, 0), 100);
        x.put(0, 0, 1);
        DUE.is("17: noble", x.asks(0, 2, 0), 200);
        DUE.is("17: a noble child does not matter", x.asks(2, 0, 0), 100);
        Land.law(x, "price 1000 * 1000; bars if own = 3 and side = 1");
        DUE.is("17: to 9999", x.asks(1, 2, 0), 9999);
        DUE.is("17: to 9999, though noble", x.asks(0, 2, 0), 9999);
        DUE.is("17: barred", x.asks(1, 2, 1), 1);
        DUE.is("17: not barred", x.asks(0, 2, 1), 0);
        Land.law(x, "price 3 - 5");
        DUE.is("17: from 0", x.asks(1, 2, 0), 0);
        DUE.is("17: from 0, though noble", x.asks(0, 2, 0), 0);
        Land.law(x, "price 5; price 6; price 7 if 1 = 2; price 8 / 0; price 9 if 1 / 0 = 0");
        DUE.is("17: the last that holds", x.asks(1, 2, 0), 6);
        DUE.is("17: the same one", x.asks(2, 2, 0), -1);
        DUE.is("17: nobody", x.asks(8, 2, 0), -1);
        DUE.is("17: no child", x.asks(2, -1, 0), -1);
        DUE.is("17: what 3", x.asks(1, 2, 3), -1);
        DUE.is("17: what -1", x.asks(1, 2, -1), -1);
    }

    /** NOBLE costs 100 more where no "price" HOLDS; where one HOLDS, it tells the whole PRICE. */
    private static void promise17PriceOfNoble() {
        BoughtKin x = Land.rich();
        x.put(2, 0, 1);
        DUE.is("17: noble, no law", x.asks(2, 4, 0), 200);
        Land.law(x, "ranks 5; bars if 1 = 2");
        DUE.is("17: noble, a law without price", x.asks(2, 4, 0), 200);
        Land.law(x, "price 7 if noble = 0");
        DUE.is("17: noble, a price of others", x.asks(2, 4, 0), 200);
        DUE.is("17: one of those others", x.asks(3, 4, 0), 7);
        Land.law(x, "price 7 / [noble - 1]");
        DUE.is("17: noble, a broken price", x.asks(2, 4, 0), 200);
        DUE.is("17: another, not broken", x.asks(3, 4, 0), 0);
        Land.law(x, "price 7 if 1 / 0 = 1");
        DUE.is("17: noble, a broken if", x.asks(2, 4, 0), 200);
        DUE.is("17: another, a broken if", x.asks(3, 4, 0), 100);
        Land.law(x, "price 70; price noble * 1000 + 8 if noble = 1 and 1 = 2");
        DUE.is("17: noble, a price that holds", x.asks(2, 4, 0), 70);
        DUE.is("17: as of another", x.asks(3, 4, 0), 70);
        x.force(-1);
        DUE.is("17: noble, in force no more", x.asks(2, 4, 0), 200);
    }

    /** The PRICE that asks() tells is the one wherever something is bought. */
    private static void priceOfNobleWhereverBought() {
        BoughtKin x = Land.rich();
        x.put(2, 0, 1);
        x.put(3, 0, 1);
        x.put(4, 2, 70);
        Land.law(x, "price 70; price 71 if side = 1");
        DUE.is("24: a noble by the price told", x.offers(4, 4), 1 | 4);
        DUE.is("25: two nobles are too much", x.cheap(4, -1, 0), -1);
        x.put(4, 2, 141);
        DUE.is("25: two nobles by the prices told", x.cheap(4, -1, 0), 141);
        DUE.is("13: a noble by orders", Land.orders(x, "buy 2 for 4 by 4;year last"), 2);
        DUE.is("13: last", x.count(13), 70);
        DUE.is("13: purse", x.of(4, 2), 71);
        DUE.is("22: a noble", x.buy(3, 4, 4), 71);
        DUE.is("22: purse", x.of(4, 2), 0);
        DUE.is("7: a noble's chest", x.chest(3), 71);
        DUE.is("23: a noble is given back", x.undo(), 3);
        DUE.is("23: purse", x.of(4, 2), 71);
        x.put(4, 2, 70);
        DUE.is("22: a noble, too dear by one", x.buy(3, 4, 4), -3);
        x.force(-1);
        x.put(4, 2, 199);
        DUE.is("24: a noble without a law", x.offers(4, 4), 2);
        DUE.is("13: a noble by orders without a law", Land.orders(x, "buy 3 for 4 by 4"), -3);
        x.put(4, 2, 200);
        DUE.is("24: a noble without a law, just", x.offers(4, 4), 2 | 8);
        DUE.is("22: a noble without a law", x.buy(3, 4, 4), 200);
        BoughtKin y = new BoughtKin();
        y.person(0, 400, 60, 1);
        y.person(0, 430, 60, 2);
        y.put(0, 0, 1);
        y.put(1, 2, 150);
        DUE.is("33: a noble is too dear at the fair", y.fair(0, 60), 0);
        Land.law(y, "price 40");
        DUE.is("33: a noble at the fair", y.fair(0, 60), 1);
        DUE.is("34: paid at the fair", y.drawn(1, 0), 110);
    }

    private static void promise18Kin() {
        BoughtKin x = Land.generations();
        x.parent(0, 2);
        x.parent(1, 2);
        x.parent(0, 3);
        x.parent(1, 3);
        x.parent(2, 4);
        x.parent(3, 5);
        DUE.is("18: brother and sister", x.kin(2, 3, 0), 2);
        DUE.is("18: the lowest common", x.kin(2, 3, 1), 0);
        DUE.is("18: cousins", x.kin(4, 5, 0), 4);
        DUE.is("18: aunt", x.kin(4, 3, 0), 3);
        DUE.is("18: up", x.kin(4, 1, 2), 2);
        DUE.is("18: not up", x.kin(1, 4, 2), -1);
        DUE.is("18: up to oneself", x.kin(4, 4, 2), 0);
        DUE.is("18: the same", x.kin(4, 4, 0), 0);
        DUE.is("18: common with oneself", x.kin(4, 4, 1), 4);
        DUE.is("18: in the line", x.kin(1, 4, 0), 2);
        DUE.is("18: common is the forebear", x.kin(4, 2, 1), 2);
        DUE.is("18: not kin", x.kin(6, 0, 0), -1);
        DUE.is("18: no common", x.kin(6, 0, 1), -1);
        x.parent(4, 6);
        x.parent(3, 6);
        DUE.is("18: the fewest steps", x.kin(6, 0, 2), 2);
        DUE.is("18: father and aunt", x.kin(6, 5, 0), 2);
        DUE.is("18: common is the mother", x.kin(6, 5, 1), 3);
        DUE.is("18: what 3", x.kin(6, 5, 3), -1);
        DUE.is("18: what -1", x.kin(6, 5, -1), -1);
        DUE.is("18: nobody", x.kin(6, 8, 0), -1);
        DUE.is("18: nobody below", x.kin(-1, 0, 0), -1);
    }

    private static void promise19Line() {
        BoughtKin x = Land.generations();
        x.parent(0, 2);
        x.parent(1, 2);
        x.parent(0, 3);
        x.parent(2, 4);
        x.parent(3, 4);
        x.parent(4, 6);
        DUE.is("19: line", x.line(6, 0), 31);
        DUE.is("19: no line", x.line(0, 0), 0);
        DUE.is("19: who has that one", x.line(0, 1), 4 | 8 | 16 | 64);
        x.put(0, 1, 50);
        x.put(6, 1, 3);
        x.put(7, 1, 9);
        DUE.is("19: debts, each once", x.line(6, 2), 53);
        DUE.is("19: one's own", x.line(7, 2), 9);
        DUE.is("19: quarters none", x.line(4, 3), 0);
        x.put(0, 0, 1);
        DUE.is("19: two places by the same one", x.line(4, 3), 2);
        x.put(2, 0, 1);
        x.put(4, 0, 1);
        DUE.is("19: not oneself", x.line(4, 3), 3);
        DUE.is("19: not farther up", x.line(6, 3), 2);
        DUE.is("19: grand on both sides", x.line(4, 4), 1);
        DUE.is("19: by one side alone", x.line(6, 4), 0);
        DUE.is("19: by no mother's line", x.line(2, 4), 0);
        x.put(1, 0, 1);
        DUE.is("19: by both", x.line(2, 4), 1);
        x.terms(0, 492);
        DUE.is("19: heir, the nearest", x.line(3, 5), 4);
        x.terms(0, 480);
        DUE.is("19: heir, born first", x.line(4, 5), 2);
        x.terms(0, 500);
        DUE.is("19: heir, the lowest", x.line(4, 5), 2);
        x.terms(0, 440);
        DUE.is("19: nearest, then the lowest", x.line(4, 5), 2);
        DUE.is("19: a child", x.line(1, 5), 2);
        DUE.is("19: of the nearest", x.line(0, 5), 2);
        x.terms(0, 600);
        DUE.is("19: nobody lives", x.line(4, 5), -1);
        x.terms(0, 500);
        DUE.is("19: no kin", x.line(7, 5), -1);
        DUE.is("19: what 6", x.line(4, 6), -1);
        DUE.is("19: what -1", x.line(4, -1), -1);
        DUE.is("19: nobody", x.line(8, 0), -1);
        BoughtKin y = new BoughtKin();
        y.person(0, 400, 90, 0);
        y.person(1, 450, 60, 0);
        y.person(1, 440, 60, 0);
        y.person(1, 440, 60, 0);
        for (int i = 1; i < 4; i++) {
            y.parent(0, i);
        }
        y.terms(0, 480);
        DUE.is("19: heir, born first of the near", y.line(0, 5), 2);
        DUE.is("19: farther ones do not matter", y.line(2, 5), 0);
        y.terms(0, 495);
        DUE.is("19: the father is dead", y.line(2, 5), 3);
        y.terms(0, 440);
        DUE.is("19: not born yet", y.line(3, 5), 0);
    }

    private static void promise20Marry() {
        BoughtKin x = Land.generations();
        x.parent(0, 2);
        x.parent(0, 3);
        x.parent(2, 4);
        x.parent(3, 5);
        x.terms(0, 470);
        DUE.is("20: cousins within the ban", x.marry(4, 5), 0);
        x.terms(1, 3);
        DUE.is("20: farther than the ban", x.marry(4, 5), 1);
        DUE.is("20: the other way", x.marry(5, 4), 1);
        DUE.is("20: alike", x.marry(2, 4), 0);
        DUE.is("20: oneself", x.marry(4, 4), 0);
        DUE.is("20: no kin", x.marry(1, 4), 1);
        x.terms(0, 479);
        DUE.is("20: lives still", x.marry(1, 4), 1);
        x.terms(0, 480);
        DUE.is("20: lives no more", x.marry(1, 4), 0);
        x.terms(0, 460);
        DUE.is("20: just born", x.marry(1, 4), 1);
        x.terms(0, 459);
        DUE.is("20: not yet", x.marry(1, 4), 0);
        x.terms(0, 470);
        x.terms(1, 0);
        DUE.is("20: ban 0, still kin by 1", x.marry(3, 0), 1);
        DUE.is("20: nobody", x.marry(0, 8), -1);
        DUE.is("20: nobody below", x.marry(-1, 0), -1);
    }

    private static void promise21Forged() {
        BoughtKin x = Land.generations();
        x.parent(0, 2);
        DUE.is("21: none", x.forged(), 0);
        x.parent(6, 3);
        x.parent(1, 7);
        DUE.is("21: too young, too old", x.forged(), 8 | 128);
        x.terms(2, 31);
        DUE.is("21: by the gap", x.forged(), 4 | 8 | 128);
        x.terms(2, 30);
        DUE.is("21: just the gap", x.forged(), 8 | 128);
        BoughtKin y = Land.rich();
        y.buy(2, 4, 4);
        y.terms(2, 40);
        DUE.is("21: what was bought, too", y.forged(), 16);
    }

    private static void promise22Buy() {
        BoughtKin x = Land.rich();
        DUE.is("22: nobody", x.buy(8, 4, 4), -2);
        DUE.is("22: no child", x.buy(2, -1, 4), -2);
        DUE.is("22: nobody pays", x.buy(2, 4, 16), -2);
        DUE.is("22: dates do not fit", x.buy(0, 1, 1), -3);
        DUE.is("22: the same one", x.buy(4, 4, 4), -3);
        DUE.is("22: another one pays", x.buy(2, 4, 5), -3);
        DUE.is("22: the parent pays", x.buy(2, 4, 2), -3);
        DUE.is("22: bought", x.buy(2, 4, 4), 100);
        DUE.is("22: father", x.of(4, 7), 2);
        DUE.is("22: sold", x.buy(2, 6, 6), -3);
        DUE.is("22: has one of that sex", x.buy(0, 4, 4), -3);
        DUE.is("22: a descendant pays", x.buy(0, 2, 4), 100);
        DUE.is("22: by whom", x.of(4, 2), 800);
        DUE.is("22: not the child's purse", x.of(2, 2), 1000);
        x.put(6, 2, 99);
        DUE.is("22: the purse has it not", x.buy(4, 6, 6), -3);
        x.put(6, 2, 100);
        DUE.is("22: the purse has it just", x.buy(4, 6, 6), 100);
        DUE.is("22: nothing is left", x.of(6, 2), 0);
        Land.law(x, "bars if born = 430; price 0");
        DUE.is("22: barred", x.buy(3, 4, 4), -3);
        DUE.is("22: for nothing", x.buy(5, 6, 6), 0);
        DUE.is("22: people sold", x.count(1), 4);
        BoughtKin y = Land.rich();
        y.parent(6, 2);
        DUE.is("22: has the child in the line", y.buy(2, 6, 6), -3);
        y.terms(2, 31);
        DUE.is("22: by the gap", y.buy(3, 4, 4), -3);
    }

    private static void promise23Undo() {
        BoughtKin x = Land.rich();
        DUE.is("23: none", x.undo(), -3);
        x.buy(2, 4, 4);
        x.buy(0, 2, 4);
        x.parent(8, 0);
        x.put(0, 3, 3);
        x.person(2, 0, 0, 0);
        x.row();
        DUE.is("23: refused ones do not matter", x.count(5), 2);
        x.terms(0, 700);
        x.force(-1);
        Land.law(x, "price 3");
        DUE.is("23: the latest", x.undo(), 0);
        DUE.is("23: the price that was paid", x.of(4, 2), 900);
        DUE.is("23: chest", x.chest(0), 0);
        DUE.is("23: not sold", x.of(0, 9), 0);
        DUE.is("23: line", x.line(4, 0), 4);
        DUE.is("23: bought again", x.buy(0, 2, 4), 3);
        DUE.is("23: again", x.undo(), 0);
        DUE.is("23: the first", x.undo(), 2);
        DUE.is("23: father", x.of(4, 7), -1);
        DUE.is("23: purse", x.of(4, 2), 1000);
        DUE.is("23: no more", x.undo(), -3);
        for (int how = 0; how < 4; how++) {
            BoughtKin y = Land.rich();
            y.buy(2, 4, 4);
            if (how == 0) {
                y.person(0, 0, 0, 0);
            } else if (how == 1) {
                y.put(7, 1, 0);
            } else if (how == 2) {
                y.parent(5, 7);
            } else {
                Feeding.put(y, new byte[] {9, 9});
                y.row();
            }
            DUE.is("23: nothing ahead of " + how, y.undo(), -3);
            DUE.is("23: it stands", y.of(4, 7), 2);
        }
    }

    private static void promise24Offers() {
        BoughtKin x = Land.rich();
        DUE.is("24: all who fit", x.offers(4, 4), 15);
        DUE.is("24: another one", x.offers(4, 5), 0);
        x.buy(2, 4, 4);
        DUE.is("24: not sold, not of that sex", x.offers(4, 4), 2 | 8);
        DUE.is("24: for a forebear", x.offers(2, 4), 3);
        x.put(4, 2, 99);
        DUE.is("24: by the purse", x.offers(4, 4), 0);
        x.put(4, 2, 100);
        x.put(3, 0, 1);
        DUE.is("24: by the price", x.offers(4, 4), 2);
        Land.law(x, "bars if family = 1");
        DUE.is("24: by the law", x.offers(4, 4), 0);
        DUE.is("24: nobody", x.offers(8, 4), -1);
        DUE.is("24: nobody pays", x.offers(4, -1), -1);
    }

    private static void promise25Cheap() {
        BoughtKin x = Land.rich();
        x.terms(0, 500);
        DUE.is("25: nobody ranks", x.cheap(6, -1, 0), -1);
        x.put(2, 0, 1);
        x.put(1, 0, 1);
        DUE.is("25: by two", x.cheap(4, -1, 0), 400);
        DUE.is("25: how many", x.cheap(4, -1, 1), 2);
        DUE.is("25: the first", x.cheap(4, -1, 2), 16 * 4 + 1);
        DUE.is("25: the second", x.cheap(4, -1, 3), 16 * 4 + 2);
        DUE.is("25: no third", x.cheap(4, -1, 4), -1);
        DUE.is("25: not by three", x.cheap(6, -1, 0), -1);
        x.put(4, 2, 399);
        DUE.is("25: the purse", x.cheap(4, -1, 0), -1);
        x.put(4, 2, 400);
        DUE.is("25: the purse just", x.cheap(4, -1, 0), 400);
        x.parent(2, 4);
        DUE.is("25: one is there", x.cheap(4, -1, 1), 1);
        DUE.is("25: the other", x.cheap(4, -1, 2), 65);
        DUE.is("25: no second", x.cheap(4, -1, 3), -1);
        x.parent(3, 4);
        DUE.is("25: for the mother", x.cheap(4, -1, 2), 16 * 3 + 1);
        x.parent(1, 3);
        DUE.is("25: is grand", x.cheap(4, -1, 0), 0);
        DUE.is("25: by none", x.cheap(4, -1, 1), 0);
        DUE.is("25: no first", x.cheap(4, -1, 2), -1);
        DUE.is("25: may marry", x.cheap(4, 7, 0), 0);
        DUE.is("25: may not marry a forebear", x.cheap(4, 3, 0), -1);
        DUE.is("25: nor such a one", x.cheap(4, 6, 0), -1);
        DUE.is("25: nor oneself", x.cheap(4, 4, 0), -1);
        DUE.is("25: nobody", x.cheap(8, -1, 0), -1);
        DUE.is("25: no other", x.cheap(4, 8, 0), -1);
        DUE.is("25: other -2", x.cheap(4, -2, 0), -1);
        DUE.is("25: what -1", x.cheap(4, -1, -1), -1);
        DUE.is("25: what high", x.cheap(4, -1, HIGH), -1);
        DUE.is("25: on paper", x.count(5), 0);
        BoughtKin y = Land.rich();
        y.terms(0, 495);
        y.parent(3, 5);
        for (int i = 2; i < 4; i++) {
            y.put(i, 0, 1);
        }
        DUE.is("25: near kin of the other are not bought", y.cheap(4, 5, 0), -1);
        y.terms(1, 1);
        DUE.is("25: but if they are far enough", y.cheap(4, 5, 0), 400);
        Land.law(y, "price 0; ranks 1");
        DUE.is("25: the first row of the cheapest", y.cheap(6, -1, 2), 16 * 6 + 2);
        DUE.is("25: and its second", y.cheap(6, -1, 3), 16 * 6 + 3);
        DUE.is("25: for nothing", y.cheap(6, -1, 0), 0);
        DUE.is("25: the fewest of the cheapest", y.cheap(6, -1, 1), 2);
    }

    /** 4 has a father who ranks; of mothers 1 ranks and 3 does not, and all are had for the same. */
    private static void promise25CheapFewest() {
        BoughtKin x = Land.rich();
        x.parent(2, 4);
        Land.law(x, "price 50 if side = 1;price 0 if side = 0;ranks 1 if born = 430;ranks 1 if family = 1");
        DUE.is("25: one is enough", x.cheap(4, -1, 1), 1);
        DUE.is("25: of like ones the first", x.cheap(4, -1, 2), 16 * 4 + 1);
        DUE.is("25: a row that begins lower is longer", x.offers(2, 4) & 1, 1);
        DUE.is("25: its price", x.cheap(4, -1, 0), 50);
        x.put(4, 2, 50);
        DUE.is("25: the purse just, by one", x.cheap(4, -1, 0), 50);
        x.put(4, 2, 49);
        DUE.is("25: the purse not, by one", x.cheap(4, -1, 0), -1);
        x.put(4, 2, 500);
        x.put(3, 1, 9);
        Land.law(x, "price 40 if debt = 9;price 0 if side = 0;ranks 1 if born = 430;ranks 1 if family = 1");
        DUE.is("25: the cheapest ahead of the first", x.cheap(4, -1, 2), 16 * 4 + 3);
        Land.law(x, "bars if debt = 9;price 40 if debt = 9;ranks 1 if born = 430;ranks 1 if family = 1");
        DUE.is("25: not a barred one", x.cheap(4, -1, 2), 16 * 4 + 1);
        Land.law(x, "price 50 if age > 30;price 10 if age = 30;ranks 1 if family < 3");
        DUE.is("25: two for less than one", x.cheap(4, -1, 0), 20);
        DUE.is("25: two", x.cheap(4, -1, 1), 2);
        DUE.is("25: the mother", x.cheap(4, -1, 2), 16 * 4 + 3);
        DUE.is("25: and her father", x.cheap(4, -1, 3), 16 * 3);
        Land.law(x, "price 30;price 10 if family = 3;price 10 if family = 1;ranks 1 if family < 3;bars if age = 60");
        DUE.is("25: by the mother's mother", x.cheap(4, -1, 0), 20);
        DUE.is("25: first the mother", x.cheap(4, -1, 2), 16 * 4 + 3);
        DUE.is("25: who then can have one", x.cheap(4, -1, 3), 16 * 3 + 1);
    }

    private static void promise26Join() {
        BoughtKin x = Land.generations();
        DUE.is("26: the same", x.join(4, 4, 0), 0);
        DUE.is("26: in one row", x.join(4, 4, 1), 1);
        DUE.is("26: parent and child", x.join(2, 4, 0), 1);
        DUE.is("26: one way", x.join(2, 4, 1), 1);
        DUE.is("26: alike in age", x.join(4, 5, 0), -1);
        DUE.is("26: rows of none", x.join(4, 5, 1), -1);
        BoughtKin y = new BoughtKin();
        y.person(0, 400, 60, 0);
        y.person(1, 430, 50, 0);
        y.person(1, 460, 60, 0);
        y.person(1, 500, 60, 0);
        y.parent(1, 2);
        DUE.is("26: by two", y.join(0, 3, 0), 2);
        DUE.is("26: either of two, in either order", y.join(0, 3, 1), 4);
        Land.law(y, "bars; price 1000");
        DUE.is("26: bars and prices aside", y.join(0, 3, 0), 2);
        y.terms(2, 40);
        DUE.is("26: fewer by the gap", y.join(0, 3, 1), 2);
        y.buy(2, 3, 3);
        y.force(-1);
        y.put(3, 2, 100);
        y.buy(2, 3, 3);
        DUE.is("26: one is bought", y.join(0, 3, 0), 1);
        DUE.is("26: what 2", y.join(0, 3, 2), -1);
        DUE.is("26: what -1", y.join(0, 3, -1), -1);
        DUE.is("26: nobody", y.join(0, 4, 0), -1);
        DUE.is("26: nobody below", y.join(-1, 0, 0), -1);
        DUE.is("26: on paper", y.count(1), 1);
    }

    private static void promise27To29Claims() {
        BoughtKin x = Land.generations();
        DUE.is("27: the same one", x.claim(3, 3), -1);
        DUE.is("27: the same one ahead of nobody", x.claim(9, 9), -1);
        DUE.is("27: nobody", x.claim(8, 3), -2);
        DUE.is("27: no child", x.claim(3, -1), -2);
        DUE.is("29: none", x.lies(0), 0);
        DUE.is("27: one", x.claim(0, 2), 1);
        DUE.is("27: two", x.claim(0, 3), 2);
        DUE.is("29: sold once alone", x.lies(0), 1);
        DUE.is("29: the lowest", x.lies(1), 1);
        DUE.is("27: three", x.claim(1, 2), 3);
        DUE.is("27: four", x.claim(5, 2), 4);
        DUE.is("29: dates", x.lies(1), 9);
        DUE.is("29: how many", x.lies(0), 2);
        for (int i = 5; i <= 8; i++) {
            DUE.is("27: more", x.claim(2, 4), i);
        }
        DUE.is("27: no room", x.claim(2, 4), -5);
        DUE.is("27: -2 ahead of -5", x.claim(2, 8), -2);
        DUE.is("27: -1 ahead of -5", x.claim(2, 2), -1);
        DUE.is("29: the same claims", x.lies(1), 1 | 8 | 16 | 32 | 64);
        DUE.is("29: what 2", x.lies(2), -1);
        DUE.is("29: what -1", x.lies(-1), -1);
        DUE.is("28: eight", x.dismiss(), 8);
        DUE.is("28: none", x.dismiss(), 0);
        DUE.is("28: count", x.count(2), 0);
        x.parent(6, 0);
        x.claim(4, 6);
        x.claim(0, 2);
        x.claim(2, 4);
        DUE.is("29: a ring", x.lies(0), 1);
        DUE.is("29: one of them", x.lies(1), 1);
        x.dismiss();
        x.claim(0, 2);
        x.claim(3, 4);
        x.claim(5, 4);
        x.claim(3, 5);
        DUE.is("29: one lie is enough where two would do", x.lies(0), 2);
        Land.law(x, "bars; price 1000");
        DUE.is("29: bars aside", x.lies(0), 2);
        DUE.is("29: on paper", x.count(1), 0);
    }

    private static void promise30To32Sights() {
        BoughtKin x = Land.generations();
        DUE.is("32: without sights all that can be", x.secret(-1), 20);
        DUE.is("32: the first", x.secret(0), 32);
        DUE.is("32: the last", x.secret(19), 16 * 7 + 5);
        DUE.is("32: no more", x.secret(20), -1);
        DUE.is("32: below", x.secret(-2), -1);
        DUE.is("32: wild", x.secret(HIGH), -1);
        DUE.is("30: far 21", x.sight(0, 1, 21), -1);
        DUE.is("30: far -2", x.sight(0, 1, -2), -1);
        DUE.is("30: -1 ahead of -2", x.sight(8, 1, 21), -1);
        DUE.is("30: nobody", x.sight(8, 1, 2), -2);
        DUE.is("30: nobody below", x.sight(0, -1, 2), -2);
        DUE.is("30: one", x.sight(0, 2, 1), 1);
        DUE.is("32: one secret", x.secret(-1), 1);
        DUE.is("32: which", x.secret(0), 32);
        DUE.is("30: two", x.sight(2, 0, 1), 2);
        DUE.is("30: not kin", x.sight(0, 3, -1), 3);
        DUE.is("30: oneself", x.sight(5, 5, 0), 4);
        DUE.is("32: still", x.secret(-1), 1);
        DUE.is("30: five", x.sight(0, 4, 2), 5);
        DUE.is("32: no secret", x.secret(-1), 0);
        DUE.is("32: none", x.secret(0), -1);
        x.parent(2, 4);
        DUE.is("32: by birth", x.secret(-1), 1);
        x.sight(0, 0, 20);
        x.sight(0, 0, 20);
        DUE.is("30: eight", x.sight(0, 0, 20), 8);
        DUE.is("30: no room", x.sight(0, 0, 20), -5);
        DUE.is("30: -2 ahead of -5", x.sight(0, 8, 20), -2);
        DUE.is("31: eight", x.forget(), 8);
        DUE.is("31: none", x.forget(), 0);
        DUE.is("31: count", x.count(3), 0);
        BoughtKin y = Land.rich();
        y.buy(0, 2, 2);
        y.sight(0, 2, 1);
        Land.law(y, "bars; price 1000");
        y.put(4, 2, 0);
        DUE.is("32: what is so already stays, bars aside", y.secret(-1), 16);
        DUE.is("32: on paper", y.count(1), 1);
    }

    private static void promise33And34Fair() {
        BoughtKin x = new BoughtKin();
        DUE.is("33: no people", x.fair(0, 1), -3);
        DUE.is("33: -1 ahead of -3", x.fair(-1, 1), -1);
        DUE.is("33: seed", x.fair(1000001, 1), -1);
        DUE.is("33: n 0", x.fair(0, 0), -1);
        DUE.is("33: n 61", x.fair(0, 61), -1);
        x.person(0, 400, 60, 1);
        x.person(0, 430, 60, 2);
        x.put(1, 2, 150);
        DUE.is("34: ahead of any", x.drawn(0, 0), -1);
        // s by the rule: 12345, 628841, 621889, ..., each modulo 2
        long s = 0;
        int bought = 0;
        for (int i = 0; i < 60; i++) {
            long[] d = new long[3];
            for (int k = 0; k < 3; k++) {
                s = (s * 1103 + 12345) % 1000003;
                d[k] = s % 2;
            }
            if (d[0] == 1 && d[1] == 1 && d[2] == 0 && bought == 0) {
                bought = i + 1;
            }
        }
        DUE.is("33: the draws have one", bought > 1 ? 1 : 0, 1);
        DUE.is("33: not yet", x.fair(0, bought - 1), 0);
        DUE.is("34: purse as it was", x.drawn(1, 0), 150);
        DUE.is("33: then once", x.fair(0, bought), 1);
        DUE.is("34: purse", x.drawn(1, 0), 50);
        DUE.is("34: line", x.drawn(1, 1), 1);
        DUE.is("34: the other's", x.drawn(0, 1), 0);
        DUE.is("34: what 2", x.drawn(0, 2), -1);
        DUE.is("34: what -1", x.drawn(0, -1), -1);
        DUE.is("34: nobody", x.drawn(2, 0), -1);
        DUE.is("34: nobody below", x.drawn(-1, 0), -1);
        DUE.is("33: on paper", x.of(1, 2), 150);
        DUE.is("33: on paper, sold", x.count(1), 0);
        DUE.is("33: on paper, chest", x.chest(1), 0);
        DUE.is("33: refused", x.fair(0, 99), -1);
        DUE.is("34: the latest stays", x.drawn(1, 0), 50);
        x.image(0);
        x.put(1, 2, 99);
        DUE.is("33: the most", x.fair(1000000, 60), 0);
        x.back(0);
        DUE.is("34: images do not keep it", x.drawn(1, 0), 99);
        x.person(0, 1, 1, 1);
        DUE.is("34: who was not at the fair", x.drawn(2, 0), -1);
    }

    private static void promise35And36Images() {
        BoughtKin x = Land.rich();
        DUE.is("36: not kept", x.back(0), -2);
        DUE.is("36: k 2", x.back(2), -1);
        DUE.is("36: k -1", x.back(-1), -1);
        DUE.is("35: k 2", x.image(2), -1);
        DUE.is("35: k -1", x.image(-1), -1);
        x.buy(2, 4, 4);
        x.claim(0, 2);
        x.sight(0, 2, 1);
        Land.law(x, "price 70");
        x.terms(3, 6);
        DUE.is("35: kept", x.image(0), 0);
        DUE.is("35: what can be undone stays", x.count(5), 1);
        DUE.is("36: the other is not kept", x.back(1), -2);
        x.buy(0, 2, 4);
        x.person(1, 500, 50, 5);
        x.put(4, 0, 1);
        x.dismiss();
        x.forget();
        Land.law(x, "price 80");
        x.terms(3, 7);
        x.parent(3, 4);
        DUE.is("35: the other", x.image(1), 0);
        Feeding.put(x, "bars");
        DUE.is("36: back", x.back(0), 0);
        DUE.is("36: the tape stays", x.count(6), 4);
        DUE.is("36: nothing can be undone", x.undo(), -3);
        int[] want = {8, 1, 1, 1, 1, 0, 4};
        for (int what = 0; what < want.length; what++) {
            DUE.is("36: count(" + what + ")", x.count(what), want[what]);
        }
        DUE.is("36: force", x.count(12), 0);
        DUE.is("36: mood", x.count(16), 6);
        DUE.is("36: mother", x.of(4, 8), -1);
        DUE.is("36: line", x.line(4, 0), 4);
        DUE.is("36: noble", x.of(4, 0), 0);
        DUE.is("36: purse", x.of(4, 2), 900);
        DUE.is("36: chest", x.chest(0), 0);
        DUE.is("36: price", x.asks(0, 2, 0), 70);
        x.end(0);
        Land.law(x, "price 90");
        DUE.is("36: another law there", x.asks(0, 2, 0), 90);
        DUE.is("36: refused calls are not kept", x.count(8), 2);
        DUE.is("36: to the other", x.back(1), 0);
        DUE.is("36: its law", x.asks(1, 3, 0), 80);
        DUE.is("36: its people", x.count(0), 9);
        DUE.is("36: its line", x.line(4, 0), 13);
        DUE.is("36: images stay", x.back(0), 0);
        DUE.is("36: as it was then", x.asks(0, 2, 0), 70);
        DUE.is("36: claims", x.lies(0), 0);
    }

    /** What is written over behind an image must be there again. */
    private static void promise36WrittenOver() {
        BoughtKin x = new BoughtKin();
        x.person(0, 400, 80, 1);
        x.image(1);
        x.person(1, 430, 70, 2);
        x.put(1, 0, 1);
        x.put(1, 1, 33);
        x.put(1, 2, 444);
        x.parent(0, 1);
        x.person(0, 470, 60, 4);
        x.claim(1, 2);
        x.claim(0, 2);
        x.sight(0, 2, 2);
        x.image(0);
        x.back(1);
        DUE.is("36: one is there", x.count(0), 1);
        DUE.is("36: gone", x.of(1, 4), -1);
        x.person(0, 500, 20, 5);
        x.person(1, 600, 30, 3);
        x.person(1, 560, 30, 3);
        x.claim(2, 1);
        x.claim(2, 0);
        x.sight(2, 1, 3);
        x.put(2, 2, 7);
        x.parent(1, 2);
        x.back(0);
        int[] want = {1, 33, 444, 1, 430, 70, 2, 0, -1, 0, 1};
        for (int what = 0; what < want.length; what++) {
            DUE.is("36: of(1, " + what + ")", x.of(1, what), want[what]);
        }
        DUE.is("36: another's line", x.line(2, 0), 0);
        DUE.is("36: another's purse", x.of(2, 2), 0);
        DUE.is("36: claims, both can be", x.lies(1), 0);
        DUE.is("36: sights", x.secret(-1), 1);
        DUE.is("36: by that one", x.secret(0), 16 * 2 + 1);
        x.back(1);
        DUE.is("36: one again", x.count(0), 1);
        x.person(0, 430, 70, 2);
        DUE.is("36: a new one has nothing", x.of(1, 2) + x.of(1, 1) + x.of(1, 0) + x.of(1, 9), 0);
        DUE.is("36: nor a father", x.of(1, 7), -1);
        DUE.is("36: nor a line", x.line(1, 0), 0);
    }

    private static void promise37Count() {
        BoughtKin x = Land.rich();
        x.person(2, 0, 0, 0);
        x.terms(9, 9);
        x.put(9, 0, 0);
        x.parent(0, 0);
        x.undo();
        x.buy(0, 0, 0);
        x.row();
        for (int i = 0; i < 9; i++) {
            x.claim(0, 1);
        }
        x.of(99, 99);
        x.chest(9);
        x.end(9);
        x.kin(9, 9, 9);
        int[] want = {8, 0, 8, 0, 0, 0, 0, 2, 1, 3, 1, 1, -1, 500, 4, 16, 0};
        for (int what = 0; what < want.length; what++) {
            DUE.is("37: count(" + what + ")", x.count(what), want[what]);
        }
        DUE.is("37: 17", x.count(17), -1);
        DUE.is("37: -1", x.count(-1), -1);
        DUE.is("37: wild", x.count(LOW), -1);
    }

    private static void promise38Status() {
        BoughtKin x = Land.generations();
        x.person(2, 0, 0, 0);
        DUE.is("38: -1", x.status(), -1);
        x.of(99, 0);
        x.dismiss();
        x.feed(0, 0, 0, 0, 0);
        x.count(0);
        DUE.is("38: questions do not matter", x.status(), -1);
        x.row();
        DUE.is("38: 0", x.status(), 0);
        x.put(99, 0, 0);
        DUE.is("38: put", x.status(), -2);
        x.force(-1);
        DUE.is("38: force answers NONE", x.status(), 0);
        x.parent(0, 0);
        DUE.is("38: parent", x.status(), -3);
        x.terms(0, 500);
        DUE.is("38: terms", x.status(), 0);
        x.buy(0, 16, 0);
        DUE.is("38: buy", x.status(), -2);
        x.image(0);
        DUE.is("38: image", x.status(), 0);
        x.undo();
        DUE.is("38: undo", x.status(), -3);
        x.back(0);
        DUE.is("38: back", x.status(), 0);
        x.law();
        DUE.is("38: law", x.status(), -6);
        x.fair(0, 1);
        DUE.is("38: fair", x.status(), 0);
        x.orders();
        DUE.is("38: orders", x.status(), -6);
        x.sight(0, 1, 1);
        DUE.is("38: sight", x.status(), 0);
        x.claim(1, 1);
        DUE.is("38: claim", x.status(), -1);
        x.force(5);
        DUE.is("38: force", x.status(), -2);
        x.back(1);
        DUE.is("38: back", x.status(), -2);
        x.image(7);
        DUE.is("38: image", x.status(), -1);
    }

    public static void main(String[] args) {
        promise1NewObject();
        promise2Person();
        promise3Put();
        promise4Of();
        promise5Parent();
        promise6Terms();
        promise7Chest();
        promise8And9Tape();
        promise10And11Row();
        promise12Law();
        promise13Orders();
        promise14And15Fault();
        promise16Force();
        promise17Asks();
        promise17PriceOfNoble();
        priceOfNobleWhereverBought();
        promise18Kin();
        promise19Line();
        promise20Marry();
        promise21Forged();
        promise22Buy();
        promise23Undo();
        promise24Offers();
        promise25Cheap();
        promise25CheapFewest();
        promise26Join();
        promise27To29Claims();
        promise30To32Sights();
        promise33And34Fair();
        promise35And36Images();
        promise36WrittenOver();
        promise37Count();
        promise38Status();
        DUE.end();
    }
}
