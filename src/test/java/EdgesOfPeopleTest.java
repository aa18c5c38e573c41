/** Terms I and promises 1 to 7: for each sentence of the document that names an edge a test of its own. */
public final class EdgesOfPeopleTest {
    private static final int LOW = Land.LOW;
    private static final int HIGH = Land.HIGH;
    private static final Due DUE = new Due();

    /** "PEOPLE 0 .. 15 (16 at most)" */
    private static void sixteenPeopleAtMost() {
        BoughtKin x = new BoughtKin();
        for (int i = 0; i < 16; i++) {
            DUE.is("I: the number", x.person(i % 2, i, i, i % 6), i);
        }
        DUE.is("I: the 17th", x.person(0, 0, 0, 0), -5);
        DUE.is("I: still 16", x.count(0), 16);
        DUE.is("I: 15 is there", x.of(15, 4), 15);
        DUE.is("I: 16 is not", x.of(16, 4), -1);
        DUE.is("I: the 17th left 15 as it was", x.of(15, 5), 15);
        DUE.is("I: again", x.person(1, 999, 120, 5), -5);
    }

    /** What place tells of the number: 3 SEX, 4 BORN, 5 LIVED, 6 FAMILY. */
    private static int personWith(BoughtKin x, int place, int value) {
        return x.person(place == 3 ? value : 0, place == 4 ? value : 0, place == 5 ? value : 0, place == 6 ? value : 0);
    }

    private static void personEdges(String name, int place, int most) {
        BoughtKin x = new BoughtKin();
        int refused = 0;
        for (int value : Land.outside(0, most)) {
            DUE.is("I, 2: " + name + " " + value, personWith(x, place, value), -1);
            refused++;
        }
        DUE.is("I, 2: nobody came by a wrong " + name, x.count(0), 0);
        DUE.is("I, 2: each was refused by -1", x.count(7), refused);
        DUE.is("I, 2: the least " + name, personWith(x, place, 0), 0);
        DUE.is("I, 2: the most " + name, personWith(x, place, most), 1);
        DUE.is("I, 2: told, the least " + name, x.of(0, place), 0);
        DUE.is("I, 2: told, the most " + name, x.of(1, place), most);
    }

    /** "SEX 0, 1" */
    private static void sexes() {
        personEdges("SEX", 3, 1);
    }

    /** "BORN 0 .. 999" */
    private static void yearsOfBirth() {
        personEdges("BORN", 4, 999);
    }

    /** "LIVED 0 .. 120 (years)" */
    private static void yearsLived() {
        personEdges("LIVED", 5, 120);
    }

    /** "a FAMILY 0 .. 5" */
    private static void families() {
        personEdges("FAMILY", 6, 5);
    }

    private static void putEdges(String name, int what, int most) {
        BoughtKin x = Land.men(16);
        for (int person : new int[] {0, 15}) {
            DUE.is("I: 0 at first, " + name, x.of(person, what), 0);
            DUE.is("I, 3: it was 0", x.put(person, what, most), 0);
            DUE.is("I, 3: the most " + name, x.of(person, what), most);
            for (int value : Land.outside(0, most)) {
                DUE.is("I, 3: " + name + " " + value, x.put(person, what, value), -1);
            }
            DUE.is("I, 3: stays, " + name, x.of(person, what), most);
            DUE.is("I, 3: it was the most", x.put(person, what, 0), most);
            DUE.is("I, 3: the least " + name, x.of(person, what), 0);
            x.put(person, what, 1);
        }
        DUE.is("I, 3: another one has none", x.of(7, what), 0);
        for (int other = 0; other < 3; other++) {
            DUE.is("I, 3: nothing else is put", x.of(0, other), other == what ? 1 : 0);
        }
    }

    /** "NOBLE 0, 1 (0 at first)" */
    private static void nobles() {
        putEdges("NOBLE", 0, 1);
    }

    /** "DEBT 0 .. 99 (0)" */
    private static void ownDebts() {
        putEdges("DEBT", 1, 99);
    }

    /** "a PURSE 0 .. 9,999 (0)" */
    private static void purses() {
        putEdges("PURSE", 2, 9999);
    }

    /** "a FATHER (of SEX 0), a MOTHER (of SEX 1) or none (at first)" */
    private static void fathersAndMothers() {
        BoughtKin x = Land.generations();
        DUE.is("I: no FATHER at first", x.of(2, 7), -1);
        DUE.is("I: no MOTHER at first", x.of(2, 8), -1);
        x.parent(0, 2);
        DUE.is("I: a FATHER is of SEX 0", x.of(2, 7), 0);
        DUE.is("I: no MOTHER by that", x.of(2, 8), -1);
        x.parent(1, 3);
        DUE.is("I: a MOTHER is of SEX 1", x.of(3, 8), 1);
        DUE.is("I: no FATHER by that", x.of(3, 7), -1);
        x.parent(1, 2);
        DUE.is("I: both", x.of(2, 8) * 10 + x.of(2, 7), 10);
    }

    /** "SOLD or not (at first)" */
    private static void soldOrNot() {
        BoughtKin x = Land.rich();
        for (int i = 0; i < 8; i++) {
            DUE.is("I: not SOLD at first", x.of(i, 9), 0);
        }
        DUE.is("I: none SOLD at first", x.count(1), 0);
        x.parent(0, 4);
        DUE.is("I: not SOLD by birth", x.of(0, 9), 0);
        x.buy(3, 4, 4);
        DUE.is("I: SOLD", x.of(3, 9), 1);
        DUE.is("I: who bought is not SOLD", x.of(4, 9), 0);
    }

    /** "CHESTS of FAMILIES: what they were paid (0 at first)": no PURSE bounds them. */
    private static void chests() {
        BoughtKin x = Land.generations();
        for (int house = 0; house < 6; house++) {
            DUE.is("I: 0 at first", x.chest(house), 0);
        }
        Land.law(x, "price 1000 * 10");
        x.put(4, 2, 9999);
        x.put(5, 2, 9999);
        x.person(0, 430, 80, 2);
        DUE.is("I: a dear one", x.buy(2, 4, 4), 9999);
        DUE.is("I: another dear one of that FAMILY", x.buy(8, 5, 5), 9999);
        DUE.is("I: both are in the CHEST", x.chest(2), 19998);
        DUE.is("I: 5 has none", x.chest(5), 0);
        x.undo();
        DUE.is("I: the one that stands", x.chest(2), 9999);
    }

    private static void termEdges(String name, int what, int least, int most, int first) {
        BoughtKin x = new BoughtKin();
        DUE.is("I: " + name + " at first", x.count(13 + what), first);
        DUE.is("I, 6: the least " + name, x.terms(what, least), first);
        for (int value : Land.outside(least, most)) {
            DUE.is("I, 6: " + name + " " + value, x.terms(what, value), -1);
        }
        DUE.is("I, 6: " + name + " stays", x.count(13 + what), least);
        DUE.is("I, 6: the most " + name, x.terms(what, most), least);
        DUE.is("I, 6: it was the most " + name, x.terms(what, most), most);
        for (int other = 0; other < 4; other++) {
            int[] all = {500, 4, 16, 0};
            DUE.is("I, 6: no other TERM by " + name, x.count(13 + other), other == what ? most : all[other]);
        }
    }

    /** "0 YEAR 0 .. 999 (500 at first)" */
    private static void years() {
        termEdges("YEAR", 0, 0, 999, 500);
    }

    /** "1 BAN 0 .. 9 (4)" */
    private static void bans() {
        termEdges("BAN", 1, 0, 9, 4);
    }

    /** "2 GAP 12 .. 40 (16)" */
    private static void gaps() {
        termEdges("GAP", 2, 12, 40, 16);
    }

    /** "3 MOOD 0 .. 9 (0)" */
    private static void moods() {
        termEdges("MOOD", 3, 0, 9, 0);
    }

    /** "REFUSED by: .. The first of these in that order." */
    private static void refusedByTheFirst() {
        BoughtKin x = Land.men(16);
        DUE.is("I: person, -1 ahead of -5", x.person(0, 0, 0, 6), -1);
        DUE.is("I: person, -5", x.person(0, 0, 0, 5), -5);
        DUE.is("I: put, a value ahead of nobody", x.put(16, 2, 10000), -1);
        DUE.is("I: put, a what ahead of nobody", x.put(16, 3, 0), -1);
        DUE.is("I: put, nobody", x.put(16, 2, 9999), -2);
        DUE.is("I: parent, nobody ahead of the same", x.parent(16, 16), -2);
        x.parent(0, 1);
        DUE.is("I: parent, nobody ahead of one who has a FATHER", x.parent(-1, 1), -2);
        DUE.is("I: buy, nobody ahead of the same", x.buy(3, 3, 16), -2);
        DUE.is("I: buy, no child ahead of what can't be", x.buy(3, 16, 3), -2);
        DUE.is("I: buy, no parent ahead of what can't be", x.buy(-1, 3, 4), -2);
        DUE.is("I: claim, the same ahead of nobody", x.claim(16, 16), -1);
        DUE.is("I: sight, far ahead of nobody", x.sight(16, 0, 21), -1);
        for (int i = 0; i < 8; i++) {
            x.claim(0, 1);
            x.sight(0, 1, 1);
        }
        DUE.is("I: claim, the same ahead of no room", x.claim(2, 2), -1);
        DUE.is("I: claim, nobody ahead of no room", x.claim(2, 16), -2);
        DUE.is("I: claim, no room", x.claim(2, 1), -5);
        DUE.is("I: sight, far ahead of no room", x.sight(0, 1, -2), -1);
        DUE.is("I: sight, nobody ahead of no room", x.sight(0, -1, 1), -2);
        DUE.is("I: sight, no room", x.sight(0, 1, 1), -5);
        DUE.is("I: back, a number ahead of no IMAGE", x.back(2), -1);
        DUE.is("I: back, no IMAGE", x.back(1), -2);
        for (int i = 0; i < 6; i++) {
            Feeding.put(x, "bars");
            x.law();
        }
        Feeding.put(x, "?");
        DUE.is("I: law, no room ahead of a TEXT that can't be", x.law(), -5);
        BoughtKin y = new BoughtKin();
        DUE.is("I: fair, a SEED ahead of no PEOPLE", y.fair(1000001, 1), -1);
        DUE.is("I: fair, n ahead of no PEOPLE", y.fair(1, 61), -1);
        DUE.is("I: fair, no PEOPLE", y.fair(1, 60), -3);
    }

    /** "A country without people." */
    private static void newObject() {
        BoughtKin x = new BoughtKin();
        DUE.is("1: no PEOPLE", x.count(0), 0);
        DUE.is("1: nobody is 0", x.of(0, 0), -1);
        DUE.is("1: nobody to put to", x.put(0, 0, 0), -2);
        DUE.is("1: nobody for a parent", x.parent(0, 0), -2);
        DUE.is("1: nobody buys", x.buy(0, 0, 0), -2);
        DUE.is("1: nobody asks", x.asks(0, 1, 0), -1);
        DUE.is("1: nobody is kin", x.kin(0, 0, 0), -1);
        DUE.is("1: nobody has a LINE", x.line(0, 0), -1);
        DUE.is("1: nobody marries", x.marry(0, 0), -1);
        DUE.is("1: nobody offers", x.offers(0, 0), -1);
        DUE.is("1: nobody is cheap", x.cheap(0, -1, 0), -1);
        DUE.is("1: nobody joins", x.join(0, 0, 0), -1);
        DUE.is("1: nobody is drawn", x.drawn(0, 0), -1);
        DUE.is("1: nothing FORGED", x.forged(), 0);
        DUE.is("1: no LIES", x.lies(0), 0);
        DUE.is("1: no SECRETS", x.secret(-1), 0);
        DUE.is("1: no first SECRET", x.secret(0), -1);
        DUE.is("1: no CLAIMS", x.dismiss(), 0);
        DUE.is("1: no SIGHTS", x.forget(), 0);
        DUE.is("1: no LAW", x.force(0), -2);
        DUE.is("1: no IMAGE", x.back(0), -2);
        DUE.is("1: nothing to undo", x.undo(), -3);
        DUE.is("1: nothing on the TAPE", x.end(1), -1);
    }

    /** Promise 3: "-1; -2." */
    private static void putRefused() {
        BoughtKin x = Land.men(15);
        for (int person : Land.outside(0, 14)) {
            DUE.is("3: nobody, " + person, x.put(person, 0, 1), -2);
        }
        for (int what : Land.outside(0, 2)) {
            DUE.is("3: what " + what, x.put(0, what, 0), -1);
        }
        DUE.is("3: the last PERSON", x.put(14, 0, 1), 0);
    }

    /** Promise 4: "NONE." */
    private static void ofNone() {
        BoughtKin x = Land.men(15);
        for (int person : Land.outside(0, 14)) {
            DUE.is("4: nobody, " + person, x.of(person, 4), -1);
        }
        for (int what : Land.outside(0, 10)) {
            DUE.is("4: what " + what, x.of(14, what), -1);
        }
        DUE.is("4: NONE is no refusal", x.count(7) + x.count(8) + x.status(), 0);
        DUE.is("4: the last PERSON", x.of(14, 4), 500);
    }

    /** Promise 5: "-2" */
    private static void parentOfNobody() {
        BoughtKin x = Land.men(15);
        for (int person : Land.outside(0, 14)) {
            DUE.is("5: no parent " + person, x.parent(person, 0), -2);
            DUE.is("5: no child " + person, x.parent(0, person), -2);
        }
    }

    /** Promise 5: "-3 (the child has one of that SEX" */
    private static void parentOfThatSex() {
        BoughtKin x = Land.rich();
        x.parent(0, 4);
        DUE.is("5: has a FATHER", x.parent(2, 4), -3);
        DUE.is("5: has that very FATHER", x.parent(0, 4), -3);
        DUE.is("5: a MOTHER is another SEX", x.parent(1, 4), 0);
        DUE.is("5: has a MOTHER", x.parent(3, 4), -3);
        x.buy(2, 5, 5);
        DUE.is("5: has a FATHER who was bought", x.parent(0, 5), -3);
        DUE.is("5: as it was", x.of(4, 7) + 10 * x.of(4, 8) + 100 * x.of(5, 7), 210);
    }

    /** Promise 5: "the same one" */
    private static void parentOfOneself() {
        BoughtKin x = Land.men(16);
        DUE.is("5: oneself", x.parent(0, 0), -3);
        DUE.is("5: the last one", x.parent(15, 15), -3);
        DUE.is("5: no FATHER", x.of(15, 7), -1);
    }

    /** Promise 5: "one who has the child in the LINE)" */
    private static void parentOfForebear() {
        BoughtKin x = Land.chain(16);
        DUE.is("5: a child's child, and so on", x.parent(15, 0), -3);
        DUE.is("5: a child", x.parent(1, 0), -3);
        DUE.is("5: the LINE is as it was", x.line(0, 0), 0);
        BoughtKin y = Land.generations();
        y.parent(1, 2);
        y.parent(2, 5);
        DUE.is("5: by a MOTHER, too", y.parent(5, 1), -3);
        DUE.is("5: one of the LINE of another one", y.parent(4, 1), 0);
    }

    /** Promise 6: "-1." */
    private static void termsRefused() {
        BoughtKin x = new BoughtKin();
        for (int what : Land.outside(0, 3)) {
            DUE.is("6: what " + what, x.terms(what, 5), -1);
        }
        DUE.is("6: refused", x.status(), -1);
        DUE.is("6: none has changed", x.count(13) + x.count(14) + x.count(15) + x.count(16), 520);
    }

    /** Promise 7: "NONE." */
    private static void chestOfNone() {
        BoughtKin x = new BoughtKin();
        for (int house : Land.outside(0, 5)) {
            DUE.is("7: no FAMILY " + house, x.chest(house), -1);
        }
        DUE.is("7: the last FAMILY", x.chest(5), 0);
        DUE.is("7: NONE is no refusal", x.count(7) + x.status(), 0);
        DUE.is("7: wild", x.chest(LOW) + x.chest(HIGH), -2);
    }

    public static void main(String[] args) {
        sixteenPeopleAtMost();
        sexes();
        yearsOfBirth();
        yearsLived();
        families();
        nobles();
        ownDebts();
        purses();
        fathersAndMothers();
        soldOrNot();
        chests();
        years();
        bans();
        gaps();
        moods();
        refusedByTheFirst();
        newObject();
        putRefused();
        ofNone();
        parentOfNobody();
        parentOfThatSex();
        parentOfOneself();
        parentOfForebear();
        termsRefused();
        chestOfNone();
        DUE.end();
    }
}
