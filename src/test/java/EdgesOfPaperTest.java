/** What is found on paper, Terms III and IV and promises 25 to 34: for each sentence that names an edge a test. */
public final class EdgesOfPaperTest {
    private static final Due DUE = new Due();

    /** PRICES, how many, the first, the second. */
    private static void cheapIs(String name, BoughtKin x, int payer, int other, int... want) {
        for (int what = 0; what < 4; what++) {
            DUE.is("25: " + name + ", what " + what, x.cheap(payer, other, what), what < want.length ? want[what] : -1);
        }
    }

    private static void ennoble(BoughtKin x, int... people) {
        for (int person : people) {
            x.put(person, 0, 1);
        }
    }

    /** "CHEAP: 0, 1 or 2 PURCHASES" */
    private static void noneOneOrTwo() {
        BoughtKin x = Land.rich();
        ennoble(x, 0, 5);
        cheapIs("three would be needed", x, 6, -1);
        x.parent(4, 6);
        cheapIs("two", x, 6, -1, 400, 2, 16 * 4, 16 * 6 + 5);
        x.parent(0, 4);
        cheapIs("one", x, 6, -1, 200, 1, 16 * 6 + 5);
        x.parent(5, 6);
        cheapIs("none", x, 6, -1, 0, 0);
    }

    /** "one behind the other, by one who pays": the second may be for one who came by the first. */
    private static void oneBehindTheOther() {
        BoughtKin x = Land.rich();
        x.parent(2, 4);
        ennoble(x, 2, 1);
        Land.law(x, "bars if age = 60");
        cheapIs("first the MOTHER, then hers", x, 4, -1, 300, 2, 16 * 4 + 3, 16 * 3 + 1);
        x.put(4, 2, 299);
        cheapIs("too little by one", x, 4, -1);
        x.put(4, 2, 300);
        cheapIs("just enough for both", x, 4, -1, 300, 2, 16 * 4 + 3, 16 * 3 + 1);
        x.put(3, 2, 9999);
        x.put(4, 2, 100);
        cheapIs("another's PURSE does not matter", x, 4, -1);
    }

    /** "by which that one is GRAND and may MARRY another one (NONE: that does not matter)" */
    private static void grandAndMayMarry() {
        BoughtKin x = Land.rich();
        x.parent(2, 5);
        ennoble(x, 0, 2, 3);
        Land.law(x, "price 100;price 50 if born = 430");
        cheapIs("whom one marries does not matter", x, 4, -1, 100, 2, 16 * 4 + 2, 16 * 4 + 3);
        cheapIs("not by a FATHER of the other one", x, 4, 5, 150, 2, 16 * 4, 16 * 4 + 3);
        x.terms(1, 2);
        cheapIs("KIN by 2, BAN 2", x, 4, 5, 150, 2, 16 * 4, 16 * 4 + 3);
        x.terms(1, 1);
        cheapIs("KIN by 2, BAN 1", x, 4, 5, 100, 2, 16 * 4 + 2, 16 * 4 + 3);
        x.terms(0, 540);
        cheapIs("neither LIVES", x, 4, 5);
        cheapIs("that does not matter without another one", x, 4, -1, 100, 2, 16 * 4 + 2, 16 * 4 + 3);
        x.terms(0, 500);
        cheapIs("alike", x, 4, 6);
        cheapIs("oneself", x, 4, 4);
    }

    /** "the least PRICES together" */
    private static void leastPrices() {
        BoughtKin x = Land.rich();
        x.parent(2, 4);
        ennoble(x, 2, 1);
        Land.law(x, "price 10;price 21 if age = 60");
        cheapIs("two for less than one", x, 4, -1, 20, 2, 16 * 4 + 3, 16 * 3 + 1);
        Land.law(x, "price 10;price 19 if age = 60");
        cheapIs("one for less than two", x, 4, -1, 19, 1, 16 * 4 + 1);
    }

    /** "then the fewest" */
    private static void thenTheFewest() {
        BoughtKin x = Land.rich();
        x.parent(2, 4);
        ennoble(x, 2, 1);
        Land.law(x, "price 10;price 20 if age = 60");
        cheapIs("one for as much as two", x, 4, -1, 20, 1, 16 * 4 + 1);
        Land.law(x, "price 0");
        cheapIs("one for nothing, though a row of two begins lower", x, 4, -1, 0, 1, 16 * 4 + 1);
        x.parent(1, 4);
        cheapIs("none for nothing", x, 4, -1, 0, 0);
    }

    /** "then the first as a row of 16 times the child and the parent" */
    private static void thenTheFirst() {
        BoughtKin x = Land.rich();
        ennoble(x, 0, 1, 2, 3);
        cheapIs("the lowest first, then the lowest second", x, 4, -1, 400, 2, 64, 65);
        x.put(1, 0, 0);
        cheapIs("the lowest first", x, 4, -1, 400, 2, 64, 67);
        x.put(0, 0, 0);
        cheapIs("the other order comes later", x, 4, -1, 400, 2, 66, 67);
        BoughtKin y = Land.rich();
        y.parent(4, 6);
        y.parent(5, 6);
        ennoble(y, 2, 1);
        cheapIs("a lower child first", y, 6, -1, 400, 2, 16 * 4 + 1, 16 * 5 + 2);
    }

    /** The same sentences, where a single PURCHASE can be thought of: it is found, and no more once it can't be. */
    private static void cheapAndNoMore() {
        BoughtKin x = new BoughtKin();
        x.person(0, 400, 60, 0);
        x.person(1, 400, 10, 1);
        x.person(0, 430, 60, 2);
        x.parent(1, 2);
        x.put(2, 2, 300);
        ennoble(x, 0, 1);
        cheapIs("the only one", x, 2, -1, 200, 1, 32);
        x.terms(2, 31);
        cheapIs("by DATES no more", x, 2, -1);
        x.terms(2, 30);
        cheapIs("again", x, 2, -1, 200, 1, 32);
        Land.law(x, "bars");
        cheapIs("BARRED", x, 2, -1);
        x.force(-1);
        x.put(2, 2, 199);
        cheapIs("too dear by one", x, 2, -1);
        x.put(2, 2, 200);
        x.buy(0, 2, 2);
        cheapIs("bought", x, 2, -1, 0, 0);
    }

    /** The same: the second of two is BARRED, or the first alone could be bought. */
    private static void cheapSecondBarred() {
        BoughtKin x = new BoughtKin();
        x.person(0, 400, 60, 0);
        x.person(1, 400, 60, 1);
        x.person(0, 430, 60, 2);
        x.put(2, 2, 400);
        ennoble(x, 0, 1);
        cheapIs("both", x, 2, -1, 400, 2, 32, 33);
        Land.law(x, "bars if side = 1");
        cheapIs("the MOTHER is BARRED", x, 2, -1);
        Land.law(x, "bars if side = 0");
        cheapIs("the FATHER is BARRED", x, 2, -1);
        Land.law(x, "price 1;price 400 if side = 1");
        cheapIs("too dear together", x, 2, -1);
        Land.law(x, "price 1;price 399 if side = 1");
        cheapIs("just enough", x, 2, -1, 400, 2, 32, 33);
        x.put(0, 0, 0);
        cheapIs("the FATHER is not NOBLE", x, 2, -1);
    }

    /** The same: the second is the lowest of all that can be thought of. */
    private static void cheapSecondIsLowest() {
        BoughtKin x = new BoughtKin();
        x.person(1, 400, 40, 0);
        x.person(1, 430, 60, 0);
        x.person(0, 460, 60, 0);
        x.person(0, 460, 60, 0);
        x.parent(3, 2);
        x.put(2, 2, 300);
        ennoble(x, 0, 3);
        cheapIs("a MOTHER, then hers", x, 2, -1, 300, 2, 33, 16);
    }

    /** Promise 25: "NONE (none, too)." */
    private static void cheapOfNobody() {
        BoughtKin x = Land.men(15);
        cheapIs("there is none", x, 0, -1);
        for (int person : Land.outside(0, 14)) {
            DUE.is("25: nobody pays " + person, x.cheap(person, -1, 1), -1);
        }
        BoughtKin y = Land.rich();
        y.parent(2, 4);
        y.parent(3, 4);
        ennoble(y, 2, 3);
        DUE.is("25: is GRAND", y.cheap(4, 5, 1), 0);
        for (int person : Land.outside(-1, 7)) {
            DUE.is("25: no other " + person, y.cheap(4, person, 1), -1);
        }
        for (int what : new int[] {-1, -2, 4, 5, 256, 65536, Land.LOW, Land.HIGH, Land.LOW + 2}) {
            DUE.is("25: what " + what, y.cheap(4, -1, what), -1);
        }
        DUE.is("25: NONE is no refusal", y.count(7) + y.count(8) + y.status(), 0);
    }

    private static void joinIs(String name, BoughtKin x, int one, int other, int purchases, int rows) {
        DUE.is("26: " + name, x.join(one, other, 0), purchases);
        DUE.is("26: " + name + ", rows", x.join(one, other, 1), rows);
    }

    /** 0 is the FATHER of 1 and of 2; 3 and 4 are of the next generation. */
    private static BoughtKin five() {
        BoughtKin x = new BoughtKin();
        x.person(0, 400, 80, 0);
        x.person(0, 430, 80, 0);
        x.person(1, 430, 80, 0);
        x.person(0, 460, 80, 0);
        x.person(1, 460, 80, 0);
        x.parent(0, 1);
        x.parent(0, 2);
        return x;
    }

    /** "To JOIN two: the fewest PURCHASES 0, 1, 2 .. by which they are KIN; in how many rows." */
    private static void joinByNoneOneTwo() {
        BoughtKin x = five();
        joinIs("the same", x, 3, 3, 0, 1);
        joinIs("KIN already", x, 1, 2, 0, 1);
        joinIs("by 0, 1 or 2", x, 1, 3, 1, 3);
        joinIs("the other way", x, 3, 1, 1, 3);
        joinIs("two of three for either, in either order", x, 3, 4, 2, 12);
        x.put(3, 2, 100);
        x.buy(0, 3, 3);
        joinIs("one is bought", x, 3, 4, 1, 2);
        x.undo();
        joinIs("and undone", x, 3, 4, 2, 12);
    }

    /** "(by anybody for anybody; PRICES, BARS aside)" */
    private static void joinAside() {
        BoughtKin x = five();
        Land.law(x, "bars;price 1000");
        joinIs("though BARRED", x, 3, 4, 2, 12);
        BoughtKin y = Land.generations();
        y.parent(4, 6);
        DUE.is("26: for a forebear of one", y.join(2, 6, 0), 1);
    }

    /** Promise 26: "NONE (not by 2)." */
    private static void joinNotByTwo() {
        BoughtKin x = Land.men(2);
        joinIs("nobody can be bought", x, 0, 1, -1, -1);
        BoughtKin y = new BoughtKin();
        for (int i = 0; i < 4; i++) {
            y.person(0, 400 + 20 * i, 20, 0);
        }
        joinIs("by two", y, 0, 2, 2, 2);
        joinIs("three would be needed", y, 0, 3, -1, -1);
        for (int person : Land.outside(0, 3)) {
            DUE.is("26: no first " + person, y.join(person, 0, 0), -1);
            DUE.is("26: no second " + person, y.join(0, person, 1), -1);
        }
        for (int what : Land.outside(0, 1)) {
            DUE.is("26: what " + what, y.join(0, 0, what), -1);
        }
        DUE.is("26: NONE is no refusal", y.count(7) + y.count(8) + y.status(), 0);
    }

    /** "CLAIMS, 8 at most" */
    private static void eightClaims() {
        BoughtKin x = Land.ladder();
        for (int i = 0; i < 8; i++) {
            DUE.is("27: how many", x.claim(i, i + 1), i + 1);
        }
        DUE.is("27: the ninth", x.claim(8, 9), -5);
        DUE.is("27: still eight", x.count(2), 8);
        DUE.is("29: all can be", x.lies(0), 0);
        DUE.is("28: eight", x.dismiss(), 8);
        DUE.is("27: room again", x.claim(8, 9), 1);
    }

    /** Promise 27: "-1 (the same one); -2" */
    private static void claimOfNobody() {
        BoughtKin x = Land.men(15);
        for (int person : Land.outside(0, 14)) {
            DUE.is("27: no parent " + person, x.claim(person, 0), -2);
            DUE.is("27: no child " + person, x.claim(0, person), -2);
            DUE.is("27: the same, though nobody, " + person, x.claim(person, person), -1);
        }
        DUE.is("27: the same", x.claim(14, 14), -1);
        DUE.is("27: none came", x.count(2), 0);
    }

    /** Promise 28: "CLAIMS are none then: how many there were." */
    private static void dismissNothing() {
        BoughtKin x = Land.rich();
        DUE.is("28: none", x.dismiss(), 0);
        x.claim(0, 1);
        DUE.is("28: one", x.dismiss(), 1);
        DUE.is("28: none again", x.dismiss(), 0);
        DUE.is("28: no LIES", x.lies(0), 0);
    }

    /** "LIES: of CLAIMS the fewest that must be left out so that all others can be PURCHASES" */
    private static void fewestLies() {
        BoughtKin x = Land.generations();
        x.person(1, 460, 80, 0);
        int[][] claims = {{0, 2}, {2, 4}, {1, 2}, {3, 4}, {5, 7}, {4, 6}, {8, 6}};
        for (int[] claim : claims) {
            x.claim(claim[0], claim[1]);
        }
        DUE.is("29: all can be", x.lies(0) * 1000 + x.lies(1), 0);
        x.claim(0, 4);
        DUE.is("29: one, though it is the last", x.lies(0), 1);
        DUE.is("29: the eighth", x.lies(1), 128);
        BoughtKin y = Land.generations();
        for (int i = 0; i < 8; i++) {
            y.claim(6, 0);
        }
        DUE.is("29: all must be", y.lies(0), 8);
        DUE.is("29: all eight", y.lies(1), 255);
    }

    /** "the lowest as bits" */
    private static void lowestLies() {
        BoughtKin x = Land.generations();
        x.claim(3, 4);
        x.claim(0, 2);
        x.claim(0, 3);
        DUE.is("29: one of two", x.lies(0), 1);
        DUE.is("29: the lower one", x.lies(1), 2);
        x.claim(0, 5);
        DUE.is("29: two of three", x.lies(0), 2);
        DUE.is("29: the lower ones", x.lies(1), 6);
    }

    /** Each of what makes it no PURCHASE, "in some order (PRICES, BARS aside)" */
    private static void liesByWhatStands() {
        BoughtKin x = Land.rich();
        x.parent(4, 2);
        x.parent(0, 5);
        x.buy(1, 6 - 2, 4);
        int[][] claims = {{2, 4}, {2, 5}, {1, 3}, {0, 1}, {5, 7}, {2, 6}};
        String[] names = {"the child is in the LINE", "has a FATHER", "is SOLD", "DATES", "can be", "can be, too"};
        for (int i = 0; i < claims.length; i++) {
            x.dismiss();
            x.claim(claims[i][0], claims[i][1]);
            DUE.is("29: " + names[i], x.lies(0), i < 4 ? 1 : 0);
        }
        Land.law(x, "bars;price 1000");
        DUE.is("29: PRICES, BARS aside", x.lies(0), 0);
    }

    /** Promise 29: "NONE." */
    private static void liesOfNothing() {
        BoughtKin x = Land.rich();
        for (int what : Land.outside(0, 1)) {
            DUE.is("29: what " + what, x.lies(what), -1);
        }
        DUE.is("29: no CLAIMS", x.lies(0) + x.lies(1), 0);
        DUE.is("29: NONE is no refusal", x.count(7) + x.status(), 0);
    }

    /** "SIGHTS, 8 at most" */
    private static void eightSights() {
        BoughtKin x = Land.men(16);
        for (int i = 0; i < 8; i++) {
            DUE.is("30: how many", x.sight(15, i, -1), i + 1);
        }
        DUE.is("30: the ninth", x.sight(15, 8, -1), -5);
        DUE.is("30: still eight", x.count(3), 8);
        DUE.is("31: eight", x.forget(), 8);
        DUE.is("30: room again", x.sight(15, 15, 0), 1);
    }

    /** "how far two PEOPLE are KIN, 0 .. 20, or that they are not (NONE)" */
    private static void farOrNot() {
        BoughtKin x = Land.men(2);
        for (int far : Land.outside(-1, 20)) {
            DUE.is("30: far " + far, x.sight(0, 1, far), -1);
        }
        DUE.is("30: NONE", x.sight(0, 1, -1), 1);
        DUE.is("30: 0", x.sight(0, 0, 0), 2);
        DUE.is("30: 20", x.sight(0, 1, 20), 3);
        DUE.is("30: refused by -1", x.count(7), 11);
    }

    /** Promise 30: "-2" */
    private static void sightOfNobody() {
        BoughtKin x = Land.men(15);
        for (int person : Land.outside(0, 14)) {
            DUE.is("30: no first " + person, x.sight(person, 0, 1), -2);
            DUE.is("30: no second " + person, x.sight(0, person, 1), -2);
        }
        DUE.is("30: none came", x.count(3), 0);
    }

    /** Promise 31: "SIGHTS are none then: how many there were." */
    private static void forgetNothing() {
        BoughtKin x = Land.rich();
        DUE.is("31: none", x.forget(), 0);
        x.sight(0, 1, 3);
        DUE.is("32: no SECRET", x.secret(-1), 0);
        DUE.is("31: one", x.forget(), 1);
        DUE.is("31: none again", x.forget(), 0);
        DUE.is("32: all are SECRETS", x.secret(-1), 20);
    }

    /** "SECRETS: one PURCHASE more (PRICES, BARS aside) by which all SIGHTS are so." */
    private static void secretsByAllSights() {
        BoughtKin x = Land.generations();
        x.sight(0, 2, 1);
        DUE.is("32: one", x.secret(-1), 1);
        DUE.is("32: that one", x.secret(0), 32);
        Land.law(x, "bars;price 1000");
        DUE.is("32: PRICES, BARS aside", x.secret(0), 32);
        x.sight(2, 2, 0);
        x.sight(0, 1, -1);
        DUE.is("32: all are so", x.secret(-1), 1);
        x.sight(0, 2, 2);
        DUE.is("32: two that can't both be", x.secret(-1), 0);
        x.forget();
        x.sight(0, 2, 0);
        DUE.is("32: nearer than can be", x.secret(-1), 0);
        x.forget();
        x.sight(0, 0, -1);
        DUE.is("32: one is KIN to oneself", x.secret(-1), 0);
        x.forget();
        x.sight(0, 2, -1);
        DUE.is("32: all but one", x.secret(-1), 19);
        BoughtKin y = Land.men(2);
        y.parent(0, 1);
        y.sight(0, 1, 1);
        DUE.is("32: so already, but nobody can be bought", y.secret(-1), 0);
    }

    /** A SIGHT as far as can be: 15 steps, of which the last is bought. */
    private static void secretFar() {
        BoughtKin x = new BoughtKin();
        for (int i = 0; i < 16; i++) {
            x.person(0, 200 + 20 * i, 39, 0);
        }
        for (int i = 1; i < 15; i++) {
            x.parent(i - 1, i);
        }
        x.sight(15, 0, 15);
        DUE.is("32: one", x.secret(-1), 1);
        DUE.is("32: the last step", x.secret(0), 16 * 15 + 14);
        x.sight(0, 15, 16);
        DUE.is("32: none farther", x.secret(-1), 0);
    }

    /** Promise 32: "how many (i NONE), the i-th .. NONE." */
    private static void secretsByNumber() {
        BoughtKin x = Land.generations();
        DUE.is("32: how many", x.secret(-1), 20);
        int before = -1;
        for (int i = 0; i < 20; i++) {
            int secret = x.secret(i);
            DUE.is("32: upwards", secret > before ? 1 : 0, 1);
            before = secret;
        }
        DUE.is("32: the first", x.secret(0), 16 * 2);
        DUE.is("32: the last", x.secret(19), 16 * 7 + 5);
        for (int i : new int[] {20, 21, 255, 256, 257, 65536, -2, -3, -256, Land.LOW, Land.LOW + 1, Land.HIGH}) {
            DUE.is("32: no " + i, x.secret(i), -1);
        }
        DUE.is("32: NONE is no refusal", x.count(7) + x.status(), 0);
    }

    /** The same: sixteen PEOPLE of whom nearly each could be a parent of each younger one. */
    private static void manySecrets() {
        BoughtKin x = new BoughtKin();
        for (int i = 0; i < 16; i++) {
            x.person(0, 300 + 12 * i, 120, 0);
        }
        x.terms(2, 12);
        DUE.is("32: how many", x.secret(-1), 105);
        DUE.is("32: the first", x.secret(0), 16);
        DUE.is("32: the last", x.secret(104), 16 * 15 + 14);
        DUE.is("32: the one ahead", x.secret(103), 16 * 15 + 13);
        DUE.is("32: no more", x.secret(105), -1);
        x.terms(2, 40);
        DUE.is("32: fewer by the GAP", x.secret(-1), 63);
    }

    /** "A FAIR with a SEED, n PURCHASES tried 1 .. 60" */
    private static void fairTries() {
        BoughtKin x = Land.rich();
        for (int n : Land.outside(1, 60)) {
            DUE.is("33: n " + n, x.fair(0, n), -1);
        }
        DUE.is("33: no FAIR yet", x.drawn(0, 0), -1);
        DUE.is("33: n 1", Math.min(0, x.fair(0, 1)), 0);
        DUE.is("33: n 60", Math.min(0, x.fair(0, 60)), 0);
    }

    /** "s is the SEED (0 .. 1,000,000)" */
    private static void fairSeeds() {
        BoughtKin x = Land.rich();
        for (int seed : Land.outside(0, 1000000)) {
            // LOW + 1,000,000 and the like are outside, but 65,536 is not
            if (seed < 0 || seed > 1000000) {
                DUE.is("33: SEED " + seed, x.fair(seed, 1), -1);
            }
        }
        DUE.is("33: no FAIR yet", x.drawn(0, 0), -1);
        DUE.is("33: SEED 0", Math.min(0, x.fair(0, 1)), 0);
        DUE.is("33: SEED 1,000,000", Math.min(0, x.fair(1000000, 1)), 0);
    }

    /** "s becomes (s times 1103 and 12345) modulo 1,000,003": 1,000,000 leads to 9036, 979026, 874786. */
    private static void drawsWrapAround() {
        BoughtKin x = new BoughtKin();
        x.person(0, 430, 60, 0);
        x.person(0, 400, 60, 0);
        x.person(0, 430, 60, 0);
        x.put(0, 2, 100);
        x.put(2, 2, 100);
        DUE.is("33: 0 pays for 0, 1 is bought", x.fair(1000000, 1), 1);
        DUE.is("34: PURSE of 0", x.drawn(0, 0), 0);
        DUE.is("34: LINE of 0", x.drawn(0, 1), 2);
        DUE.is("34: PURSE of 2", x.drawn(2, 0), 100);
        x.put(0, 2, 99);
        DUE.is("33: it can't be", x.fair(1000000, 1), 0);
    }

    /** "DRAWS of PEOPLE: who pays, the child, the parent": 0 leads to 12345, 628841, 621889. */
    private static void drawsInTheirOrder() {
        BoughtKin x = new BoughtKin();
        x.person(0, 470, 60, 0);
        x.person(0, 400, 60, 0);
        x.person(0, 430, 60, 0);
        x.parent(2, 0);
        x.put(0, 2, 150);
        DUE.is("33: 0 pays for 2, 1 is bought", x.fair(0, 1), 1);
        DUE.is("34: PURSE of 0", x.drawn(0, 0), 50);
        DUE.is("34: LINE of 2", x.drawn(2, 1), 2);
        DUE.is("34: LINE of 0", x.drawn(0, 1), 6);
        DUE.is("34: LINE of 1", x.drawn(1, 1), 0);
        Land.law(x, "bars");
        DUE.is("33: BARRED", x.fair(0, 1), 0);
        DUE.is("34: as it was", x.drawn(0, 0), 150);
    }

    /** Promise 33: "-3 there are no PEOPLE" */
    private static void fairOfNobody() {
        BoughtKin x = new BoughtKin();
        DUE.is("33: no PEOPLE", x.fair(0, 1), -3);
        DUE.is("34: no FAIR", x.drawn(0, 0), -1);
        x.image(0);
        x.person(0, 400, 50, 0);
        x.put(0, 2, 5);
        DUE.is("33: one PERSON buys nobody", x.fair(0, 60), 0);
        DUE.is("34: that PERSON", x.drawn(0, 0), 5);
        x.back(0);
        DUE.is("33: no PEOPLE again", x.fair(0, 1), -3);
    }

    /** "on paper" */
    private static void fairOnPaper() {
        BoughtKin x = Land.rich();
        DUE.is("33: many are bought", x.fair(7, 60) > 0 ? 1 : 0, 1);
        DUE.is("33: nobody is SOLD", x.count(1), 0);
        DUE.is("33: nothing can be undone", x.count(5), 0);
        for (int i = 0; i < 8; i++) {
            DUE.is("33: PURSE", x.of(i, 2), 1000);
            DUE.is("33: LINE", x.line(i, 0), 0);
            DUE.is("33: CHEST", Math.max(0, x.chest(i)), 0);
        }
    }

    /** Promise 33: "kept as the latest" */
    private static void fairKept() {
        BoughtKin x = Land.rich();
        x.fair(5, 1);
        x.put(0, 2, 7);
        DUE.is("34: as it was at the FAIR", x.drawn(0, 0), 1000);
        x.fair(1000001, 1);
        x.fair(5, 61);
        DUE.is("34: a FAIR that was REFUSED is none", x.drawn(0, 0), 1000);
        x.fair(1000000, 1);
        DUE.is("34: the latest", x.drawn(0, 0), 7);
    }

    /** Promise 34: "NONE." */
    private static void drawnOfNobody() {
        BoughtKin x = Land.men(15);
        DUE.is("34: ahead of any", x.drawn(0, 0) + x.drawn(0, 1), -2);
        x.fair(0, 1);
        for (int person : Land.outside(0, 14)) {
            DUE.is("34: nobody " + person, x.drawn(person, 0), -1);
            DUE.is("34: no LINE of " + person, x.drawn(person, 1), -1);
        }
        for (int what : Land.outside(0, 1)) {
            DUE.is("34: what " + what, x.drawn(0, what), -1);
        }
        DUE.is("34: the last", x.drawn(14, 0), 0);
        DUE.is("34: NONE is no refusal", x.count(7) + x.count(8) + x.status(), 0);
    }

    public static void main(String[] args) {
        noneOneOrTwo();
        oneBehindTheOther();
        grandAndMayMarry();
        leastPrices();
        thenTheFewest();
        thenTheFirst();
        cheapAndNoMore();
        cheapSecondBarred();
        cheapSecondIsLowest();
        cheapOfNobody();
        joinByNoneOneTwo();
        joinAside();
        joinNotByTwo();
        eightClaims();
        claimOfNobody();
        dismissNothing();
        fewestLies();
        lowestLies();
        liesByWhatStands();
        liesOfNothing();
        eightSights();
        farOrNot();
        sightOfNobody();
        forgetNothing();
        secretsByAllSights();
        secretFar();
        secretsByNumber();
        manySecrets();
        fairTries();
        fairSeeds();
        drawsWrapAround();
        drawsInTheirOrder();
        fairOfNobody();
        fairOnPaper();
        fairKept();
        drawnOfNobody();
        DUE.end();
    }
}
