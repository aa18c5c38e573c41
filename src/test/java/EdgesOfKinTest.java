/** Terms III as far as it stands, and promises 17 to 24: for each sentence that names an edge a test of its own. */
public final class EdgesOfKinTest {
    private static final Due DUE = new Due();

    /** Whether DATES FIT of a parent who is BORN in 300. */
    private static int fits(int sex, int lived, int later, int gap) {
        BoughtKin x = new BoughtKin();
        x.person(sex, 300, lived, 0);
        x.person(0, 300 + later, 50, 0);
        x.terms(2, gap);
        return x.asks(0, 1, 2);
    }

    /** "UP: the fewest steps from one to one of the LINE (to oneself: 0)." */
    private static void stepsUp() {
        BoughtKin x = Land.chain(16);
        DUE.is("18: to oneself", x.kin(7, 7, 2), 0);
        DUE.is("18: to the FATHER", x.kin(15, 14, 2), 1);
        DUE.is("18: to the farthest", x.kin(15, 0, 2), 15);
        DUE.is("18: not down", x.kin(0, 15, 2), -1);
        BoughtKin y = Land.generations();
        y.parent(4, 6);
        y.parent(2, 4);
        y.parent(0, 2);
        DUE.is("18: by the FATHER", y.kin(6, 0, 2), 3);
        y.parent(1, 6);
        y.parent(0, 1);
        DUE.is("18: fewer by the MOTHER", y.kin(6, 0, 2), 2);
    }

    /** "KIN are two, if one is in the LINE of both, or one in the other's, or they are the same" */
    private static void kinOrNot() {
        BoughtKin x = Land.chain(16);
        DUE.is("18: the same", x.kin(15, 15, 0), 0);
        DUE.is("18: in the other's LINE", x.kin(0, 15, 0), 15);
        DUE.is("18: the other way", x.kin(15, 0, 0), 15);
        BoughtKin y = Land.generations();
        DUE.is("18: not yet", y.kin(4, 5, 0), -1);
        y.parent(2, 4);
        y.parent(3, 5);
        DUE.is("18: parents who are not KIN", y.kin(4, 5, 0), -1);
        y.parent(0, 2);
        y.parent(0, 3);
        DUE.is("18: one in the LINE of both", y.kin(4, 5, 0), 4);
        DUE.is("18: FATHER and MOTHER of one are not KIN by that", y.kin(0, 1, 0), -1);
    }

    /** "the fewest steps UP from both together to such a one" */
    private static void fewestSteps() {
        BoughtKin x = Land.generations();
        x.parent(2, 4);
        x.parent(2, 5);
        x.parent(1, 4);
        x.parent(3, 5);
        x.parent(1, 3);
        DUE.is("18: by 2 in two steps, by 1 in three", x.kin(4, 5, 0), 2);
        DUE.is("18: the nearest is COMMON, though 1 is lower", x.kin(4, 5, 1), 2);
    }

    /** "COMMON: that one, the lowest." */
    private static void lowestCommon() {
        BoughtKin x = Land.generations();
        x.parent(4, 6);
        x.parent(4, 7);
        x.parent(3, 6);
        x.parent(3, 7);
        DUE.is("18: the MOTHER is lower", x.kin(6, 7, 1), 3);
        DUE.is("18: of oneself", x.kin(6, 6, 1), 6);
        DUE.is("18: of one in the LINE", x.kin(6, 4, 1), 4);
        DUE.is("18: none", x.kin(0, 1, 1), -1);
    }

    /** Promise 18: "NONE." */
    private static void kinOfNobody() {
        BoughtKin x = Land.chain(15);
        for (int person : Land.outside(0, 14)) {
            DUE.is("18: no first " + person, x.kin(person, 0, 0), -1);
            DUE.is("18: no second " + person, x.kin(0, person, 0), -1);
            DUE.is("18: no steps to " + person, x.kin(0, person, 2), -1);
        }
        for (int what : Land.outside(0, 2)) {
            DUE.is("18: what " + what, x.kin(0, 0, what), -1);
        }
        DUE.is("18: NONE is no refusal", x.count(7) + x.count(8) + x.status(), 0);
    }

    /** "The LINE of one: FATHER, MOTHER, theirs, and so on.", as bits */
    private static void wholeLine() {
        BoughtKin x = Land.chain(16);
        DUE.is("19: of the last", x.line(15, 0), 0x7FFF);
        DUE.is("19: of the first", x.line(0, 0), 0);
        DUE.is("19: who has the first", x.line(0, 1), 0xFFFE);
        DUE.is("19: who has the last", x.line(15, 1), 0);
    }

    /** PERSON 0 is one like all others: here the last of a LINE that begins with 15. */
    private static void nobodyIsFirst() {
        BoughtKin x = new BoughtKin();
        for (int i = 0; i < 16; i++) {
            x.person(0, 600 - 20 * i, 40, 0);
        }
        x.put(0, 2, 9999);
        for (int i = 0; i < 15; i++) {
            DUE.is("22: bought upwards", x.buy(i + 1, i, 0), 100);
        }
        DUE.is("19: LINE of 0", x.line(0, 0), 0xFFFE);
        DUE.is("19: who has 15", x.line(15, 1), 0x7FFF);
        DUE.is("18: steps to 15", x.kin(0, 15, 2), 15);
        x.terms(2, 21);
        DUE.is("21: all but 15", x.forged(), 0x7FFF);
        x.terms(2, 16);
        for (int i = 15; i > 0; i--) {
            DUE.is("23: undone", x.undo(), i);
            DUE.is("23: LINE of 0", x.line(0, 0), (1 << i) - 2);
        }
        x.parent(1, 0);
        x.parent(2, 1);
        x.buy(3, 2, 0);
        x.undo();
        DUE.is("23: what is by birth stays", x.line(0, 0), 6);
    }

    /** "DEBTS: one's own and those of all of the LINE, each once." */
    private static void debtsEachOnce() {
        BoughtKin x = Land.chain(16);
        for (int i = 0; i < 16; i++) {
            x.put(i, 1, 99);
        }
        DUE.is("19: of sixteen", x.line(15, 2), 1584);
        DUE.is("19: one's own alone", x.line(0, 2), 99);
        BoughtKin y = Land.generations();
        DUE.is("19: none", y.line(4, 2), 0);
        y.parent(2, 4);
        y.parent(3, 4);
        y.parent(0, 2);
        y.parent(0, 3);
        y.put(0, 1, 7);
        DUE.is("19: of both sides, once", y.line(4, 2), 7);
    }

    /** "QUARTERS: how many of the six places of parents and theirs are filled by such as RANK above 0." */
    private static void sixQuarters() {
        BoughtKin x = Land.generations();
        int[][] ties = {{4, 6}, {5, 6}, {2, 4}, {3, 4}, {0, 5}, {1, 5}};
        DUE.is("19: no place is filled", x.line(6, 3), 0);
        for (int[] tie : ties) {
            x.parent(tie[0], tie[1]);
        }
        DUE.is("19: by none who RANKS", x.line(6, 3), 0);
        for (int i = 0; i < 6; i++) {
            x.put(i, 0, 1);
            DUE.is("19: by one more", x.line(6, 3), i + 1);
        }
        x.put(6, 0, 1);
        x.put(7, 0, 1);
        x.parent(7, 0);
        DUE.is("19: not oneself, not farther up", x.line(6, 3), 6);
        Land.law(x, "ranks 0");
        DUE.is("19: RANK 0 is not above 0", x.line(6, 3), 0);
        Land.law(x, "ranks 1");
        DUE.is("19: RANK 1 is", x.line(6, 3), 6);
        BoughtKin y = Land.generations();
        y.parent(4, 6);
        y.parent(5, 6);
        y.parent(2, 4);
        y.parent(2, 5);
        y.put(2, 0, 1);
        DUE.is("19: one fills two places", y.line(6, 3), 2);
    }

    /** "GRAND: by FATHER and by MOTHER: that one or one of that LINE RANKS above 0." */
    private static void grandOnBothSides() {
        BoughtKin x = Land.generations();
        x.put(6, 0, 1);
        DUE.is("19: without parents", x.line(6, 4), 0);
        x.parent(4, 6);
        x.put(4, 0, 1);
        DUE.is("19: by the FATHER alone", x.line(6, 4), 0);
        x.parent(5, 6);
        DUE.is("19: the MOTHER does not RANK", x.line(6, 4), 0);
        x.put(5, 0, 1);
        DUE.is("19: by both", x.line(6, 4), 1);
        x.put(4, 0, 0);
        DUE.is("19: by the MOTHER alone", x.line(6, 4), 0);
        x.parent(2, 4);
        x.parent(1, 2);
        x.put(1, 0, 1);
        DUE.is("19: by one of the FATHER's LINE", x.line(6, 4), 1);
        x.put(5, 0, 0);
        x.parent(1, 5);
        DUE.is("19: the same one on both sides", x.line(6, 4), 1);
        Land.law(x, "ranks 0 - 5");
        DUE.is("19: below 0 is 0", x.line(6, 4), 0);
    }

    private static int marries(int born, int lived, int year) {
        BoughtKin x = new BoughtKin();
        x.person(0, born, lived, 0);
        for (int i = 0; i < 10; i++) {
            x.person(1, i * 100, 100, 0);
        }
        x.terms(0, year);
        return x.marry(0, 1 + year / 100);
    }

    /** "One LIVES in the years BORN .. BORN and LIVED less 1." */
    private static void livesFromTo() {
        DUE.is("III: a year ahead", marries(450, 60, 449), 0);
        DUE.is("III: the first year", marries(450, 60, 450), 1);
        DUE.is("III: the last year", marries(450, 60, 509), 1);
        DUE.is("III: a year behind", marries(450, 60, 510), 0);
        DUE.is("III: LIVED 0", marries(450, 0, 450), 0);
        DUE.is("III: LIVED 0, the year ahead", marries(450, 0, 449), 0);
        DUE.is("III: LIVED 1", marries(450, 1, 450), 1);
        DUE.is("III: LIVED 1, behind", marries(450, 1, 451), 0);
        DUE.is("III: LIVED 120", marries(450, 120, 569), 1);
        DUE.is("III: LIVED 120, behind", marries(450, 120, 570), 0);
        DUE.is("III: the year 0", marries(0, 1, 0), 1);
        DUE.is("III: the year 999", marries(999, 1, 999), 1);
        DUE.is("III: beyond the year 999", marries(999, 120, 999), 1);
        DUE.is("III: LIVED 0 in the year 999", marries(999, 0, 999), 0);
    }

    /** Each by birth a parent of the next one; 0 is of SEX 0, the others of SEX 1. */
    private static BoughtKin daughters(int many) {
        BoughtKin x = new BoughtKin();
        for (int i = 0; i < many; i++) {
            x.person(i == 0 ? 0 : 1, 500, 10, 0);
        }
        for (int i = 1; i < many; i++) {
            x.parent(i - 1, i);
        }
        return x;
    }

    /** "Two may MARRY: .. not KIN, or farther than BAN." */
    private static void fartherThanTheBan() {
        BoughtKin x = daughters(12);
        DUE.is("20: BAN 4, KIN by 4", x.marry(0, 4), 0);
        DUE.is("20: BAN 4, KIN by 5", x.marry(0, 5), 1);
        x.terms(1, 9);
        DUE.is("20: BAN 9, KIN by 9", x.marry(0, 9), 0);
        DUE.is("20: BAN 9, KIN by 10", x.marry(0, 10), 1);
        x.terms(1, 0);
        DUE.is("20: BAN 0, KIN by 1", x.marry(0, 1), 1);
        DUE.is("20: BAN 0, the same", x.marry(0, 0), 0);
        DUE.is("20: BAN 0, alike", x.marry(1, 2), 0);
        x.terms(1, 9);
        x.person(1, 500, 10, 0);
        DUE.is("20: BAN 9, not KIN", x.marry(0, 12), 1);
        DUE.is("20: not KIN, the other way", x.marry(12, 0), 1);
        x.terms(0, 510);
        DUE.is("20: neither LIVES", x.marry(0, 12), 0);
    }

    /** "both LIVE in YEAR" */
    private static void bothLive() {
        BoughtKin x = new BoughtKin();
        x.person(0, 500, 10, 0);
        x.person(1, 509, 10, 0);
        int[] years = {499, 500, 508, 509, 510, 518, 519};
        int[] want = {0, 0, 0, 1, 0, 0, 0};
        for (int i = 0; i < years.length; i++) {
            x.terms(0, years[i]);
            DUE.is("20: in " + years[i], x.marry(0, 1), want[i]);
            DUE.is("20: the other way in " + years[i], x.marry(1, 0), want[i]);
        }
    }

    /** Promise 20: "NONE." */
    private static void marriesNobody() {
        BoughtKin x = Land.men(15);
        for (int person : Land.outside(0, 14)) {
            DUE.is("20: no first " + person, x.marry(person, 0), -1);
            DUE.is("20: no second " + person, x.marry(0, person), -1);
        }
        DUE.is("20: no 15", x.marry(15, 15), -1);
        DUE.is("20: NONE is no refusal", x.count(8) + x.status(), 0);
    }

    /** "HEIR: of all others who are KIN and LIVE in YEAR the nearest, then the one BORN first, the lowest." */
    private static void heirs() {
        BoughtKin x = new BoughtKin();
        int[] born = {400, 452, 450, 450, 480, 400};
        for (int year : born) {
            x.person(0, year, 60, 0);
        }
        x.terms(0, 455);
        DUE.is("19: nobody is KIN", x.line(0, 5), -1);
        x.parent(0, 1);
        DUE.is("19: the one who is KIN", x.line(0, 5), 1);
        x.parent(0, 2);
        DUE.is("19: BORN first", x.line(0, 5), 2);
        x.parent(0, 3);
        DUE.is("19: the lowest", x.line(0, 5), 2);
        x.parent(3, 4);
        DUE.is("19: the nearest, though BORN later", x.line(4, 5), 3);
        x.terms(0, 451);
        DUE.is("19: not one who is not BORN", x.line(0, 5), 2);
        x.terms(0, 509);
        DUE.is("19: lives still", x.line(4, 5), 3);
        x.terms(0, 510);
        DUE.is("19: lives no more, a brother's", x.line(4, 5), 1);
        x.terms(0, 512);
        DUE.is("19: none lives", x.line(4, 5), -1);
        DUE.is("19: one who is dead has one", x.line(0, 5), 4);
        x.terms(0, 540);
        DUE.is("19: nobody lives", x.line(0, 5), -1);
    }

    /** Promise 19: "NONE." */
    private static void lineOfNobody() {
        BoughtKin x = Land.men(15);
        for (int person : Land.outside(0, 14)) {
            for (int what = 0; what <= 5; what++) {
                DUE.is("19: nobody " + person + ", " + what, x.line(person, what), -1);
            }
        }
        for (int what : Land.outside(0, 5)) {
            DUE.is("19: what " + what, x.line(0, what), -1);
        }
        DUE.is("19: NONE is no refusal", x.count(7) + x.count(8) + x.status(), 0);
    }

    /** "DATES FIT: a child is BORN GAP years later than the parent, or more" */
    private static void datesByTheGap() {
        for (int sex = 0; sex < 2; sex++) {
            DUE.is("III: 15 of 16", fits(sex, 80, 15, 16), 0);
            DUE.is("III: 16 of 16", fits(sex, 80, 16, 16), 1);
            DUE.is("III: 17 of 16", fits(sex, 80, 17, 16), 1);
            DUE.is("III: 11 of 12", fits(sex, 80, 11, 12), 0);
            DUE.is("III: 12 of 12", fits(sex, 80, 12, 12), 1);
            DUE.is("III: 39 of 40", fits(sex, 80, 39, 40), 0);
            DUE.is("III: 40 of 40", fits(sex, 80, 40, 40), 1);
            DUE.is("III: in the same year", fits(sex, 80, 0, 12), 0);
            DUE.is("III: 16 years ahead", fits(sex, 80, -16, 16), 0);
            DUE.is("III: 300 years ahead", fits(sex, 80, -300, 16), 0);
        }
    }

    /** "and in a year in which that one LIVES" */
    private static void datesOfAMother() {
        DUE.is("III: her last year", fits(1, 30, 29, 16), 1);
        DUE.is("III: the next one", fits(1, 30, 30, 16), 0);
        DUE.is("III: her last year is the GAP's", fits(1, 17, 16, 16), 1);
        DUE.is("III: too short a life", fits(1, 16, 16, 16), 0);
        DUE.is("III: the longest life", fits(1, 120, 119, 40), 1);
        DUE.is("III: longer", fits(1, 120, 120, 40), 0);
        DUE.is("III: no life", fits(1, 0, 12, 12), 0);
    }

    /** "of a FATHER also in the next one" */
    private static void datesOfAFather() {
        DUE.is("III: his last year", fits(0, 30, 29, 16), 1);
        DUE.is("III: the next one", fits(0, 30, 30, 16), 1);
        DUE.is("III: the one behind it", fits(0, 30, 31, 16), 0);
        DUE.is("III: the next one is the GAP's", fits(0, 16, 16, 16), 1);
        DUE.is("III: too short a life", fits(0, 15, 16, 16), 0);
        DUE.is("III: the longest life", fits(0, 120, 120, 40), 1);
        DUE.is("III: longer", fits(0, 120, 121, 40), 0);
        DUE.is("III: no life", fits(0, 0, 12, 12), 0);
        BoughtKin x = new BoughtKin();
        x.person(0, 879, 120, 0);
        x.person(0, 999, 0, 0);
        x.person(0, 0, 16, 0);
        x.person(1, 16, 0, 0);
        DUE.is("III: to 999", x.asks(0, 1, 2), 1);
        DUE.is("III: from 0", x.asks(2, 3, 2), 1);
    }

    /** "FORGED are children whose FATHER or MOTHER does not FIT." */
    private static void forgedChildren() {
        BoughtKin x = new BoughtKin();
        x.person(0, 400, 60, 0);
        x.person(1, 400, 60, 0);
        int[] born = {460, 460, 461, 416, 415, 415, 459, 459, 300, 300, 460, 460, 461, 461};
        for (int year : born) {
            x.person(0, year, 20, 0);
        }
        DUE.is("21: nobody has parents", x.forged(), 0);
        // FATHERS for 2, 4, 5, 6, 8; MOTHERS for 3, 5, 7, 9; both for 14 and 15
        for (int child : new int[] {2, 4, 5, 6, 8, 14, 15}) {
            x.parent(0, child);
        }
        for (int child : new int[] {3, 5, 7, 9, 14, 15}) {
            x.parent(1, child);
        }
        int want = 1 << 3 | 1 << 4 | 1 << 6 | 1 << 7 | 1 << 14 | 1 << 15;
        DUE.is("21: 460 of a MOTHER, 461 of a FATHER, 415 of either", x.forged(), want);
        x.terms(2, 15);
        DUE.is("21: 415 by a lesser GAP", x.forged(), 1 << 3 | 1 << 4 | 1 << 14 | 1 << 15);
        x.terms(2, 17);
        DUE.is("21: 416 by a greater GAP", x.forged(), want | 1 << 5);
    }

    /** Promise 17: "NONE (the same one)." */
    private static void asksOfNobody() {
        BoughtKin x = Land.men(15);
        for (int person : Land.outside(0, 14)) {
            for (int what = 0; what <= 2; what++) {
                DUE.is("17: no parent " + person, x.asks(person, 0, what), -1);
                DUE.is("17: no child " + person, x.asks(0, person, what), -1);
            }
        }
        for (int what : Land.outside(0, 2)) {
            DUE.is("17: what " + what, x.asks(0, 1, what), -1);
        }
        for (int what = 0; what <= 2; what++) {
            DUE.is("17: the same one", x.asks(14, 14, what), -1);
        }
        DUE.is("17: NONE is no refusal", x.count(7) + x.count(8) + x.status(), 0);
        x.parent(1, 0);
        DUE.is("17: of one who can't be bought, too", x.asks(0, 1, 0), 100);
    }

    /** "by one who pays, the child or one in whose LINE the child is" */
    private static void whoPays() {
        BoughtKin x = Land.rich();
        x.parent(2, 4);
        x.parent(4, 6);
        DUE.is("22: one who is no KIN", x.buy(0, 2, 5), -3);
        DUE.is("22: the parent", x.buy(0, 2, 0), -3);
        DUE.is("22: the child's FATHER", x.buy(3, 4, 2), -3);
        x.parent(2, 5);
        DUE.is("22: a sister", x.buy(3, 4, 5), -3);
        DUE.is("22: the child's child's child", x.buy(0, 2, 6), 100);
        DUE.is("22: that one paid", x.of(6, 2) * 10 + x.of(2, 2), 10000);
        DUE.is("22: the child", x.buy(3, 4, 4), 100);
        DUE.is("22: that one paid", x.of(4, 2), 900);
        DUE.is("22: the child's child", x.buy(1, 2, 5), 100);
    }

    /** "the child has none of that SEX" */
    private static void hasNoneOfThatSex() {
        BoughtKin x = Land.rich();
        x.parent(0, 4);
        DUE.is("22: has a FATHER by birth", x.buy(2, 4, 4), -3);
        DUE.is("22: a MOTHER is another SEX", x.buy(3, 4, 4), 100);
        DUE.is("22: has a MOTHER who was bought", x.buy(1, 4, 4), -3);
    }

    /** "the parent is not SOLD" */
    private static void notSold() {
        BoughtKin x = Land.rich();
        x.parent(2, 5);
        DUE.is("22: a FATHER by birth is not SOLD", x.buy(2, 4, 4), 100);
        DUE.is("22: SOLD", x.buy(2, 6, 6), -3);
        x.undo();
        DUE.is("22: no more", x.buy(2, 6, 6), 100);
    }

    /** "not the child, not such as has the child in the LINE" */
    private static void notBelowTheChild() {
        BoughtKin x = Land.rich();
        DUE.is("22: the child", x.buy(4, 4, 4), -3);
        x.parent(4, 2);
        DUE.is("22: one whose FATHER is the child", x.buy(2, 4, 4), -3);
        BoughtKin y = Land.rich();
        y.parent(5, 3);
        y.parent(3, 0);
        y.parent(0, 2);
        DUE.is("22: one who has the child farther up", y.buy(2, 5, 5), -3);
        DUE.is("22: as it was", y.line(5, 0), 0);
        DUE.is("22: one who has not", y.buy(1, 5, 5), 100);
    }

    /** "DATES FIT" */
    private static void purchaseByDates() {
        BoughtKin x = new BoughtKin();
        x.person(0, 400, 30, 0);
        x.person(1, 400, 30, 0);
        int[] born = {415, 416, 429, 430, 431};
        for (int year : born) {
            x.person(0, year, 50, 0);
            x.put(x.count(0) - 1, 2, 500);
        }
        int[] father = {-3, 100, 100, 100, -3};
        int[] mother = {-3, 100, 100, -3, -3};
        for (int i = 0; i < born.length; i++) {
            DUE.is("22: FATHER of " + born[i], x.buy(0, 2 + i, 2 + i), father[i]);
            x.undo();
            DUE.is("22: MOTHER of " + born[i], x.buy(1, 2 + i, 2 + i), mother[i]);
            x.undo();
        }
    }

    /** "it is not BARRED" */
    private static void purchaseBarred() {
        BoughtKin x = Land.rich();
        Land.law(x, "bars if age > 30");
        DUE.is("22: BARRED", x.buy(0, 4, 4), -3);
        DUE.is("22: not BARRED", x.buy(2, 4, 4), 100);
        Land.law(x, "bars");
        DUE.is("22: all are", x.buy(3, 4, 4), -3);
        DUE.is("22: offers none", x.offers(4, 4), 0);
        x.force(-1);
        DUE.is("22: none is", x.buy(3, 4, 4), 100);
    }

    /** "the PURSE has the PRICE" */
    private static void purseHasThePrice() {
        BoughtKin x = Land.generations();
        DUE.is("22: an empty PURSE", x.buy(2, 4, 4), -3);
        x.put(4, 2, 99);
        DUE.is("22: too little by one", x.buy(2, 4, 4), -3);
        x.put(4, 2, 100);
        DUE.is("22: just enough", x.buy(2, 4, 4), 100);
        DUE.is("22: empty then", x.of(4, 2), 0);
        Land.law(x, "price 0");
        DUE.is("22: for nothing by an empty PURSE", x.buy(3, 4, 4), 0);
        DUE.is("22: that is no refusal", x.status(), 0);
        Land.law(x, "price 1000 * 1000");
        x.put(6, 2, 9998);
        DUE.is("22: the dearest, too little by one", x.buy(4, 6, 6), -3);
        x.put(6, 2, 9999);
        DUE.is("22: the dearest", x.buy(4, 6, 6), 9999);
    }

    /** "The PURSE has less by that, the CHEST of the parent's FAMILY more; the parent is SOLD." */
    private static void paid() {
        BoughtKin x = Land.rich();
        Land.law(x, "price 37");
        x.buy(3, 4, 4);
        DUE.is("22: PURSE", x.of(4, 2), 963);
        DUE.is("22: the parent's PURSE", x.of(3, 2), 1000);
        DUE.is("22: CHEST of 3", x.chest(3), 37);
        DUE.is("22: CHEST of the child's", x.chest(4), 0);
        DUE.is("22: SOLD", x.of(3, 9), 1);
        DUE.is("22: MOTHER", x.of(4, 8), 3);
    }

    /** Promise 22: "-2" */
    private static void buyOfNobody() {
        BoughtKin x = Land.men(15);
        for (int person : Land.outside(0, 14)) {
            DUE.is("22: no parent " + person, x.buy(person, 0, 0), -2);
            DUE.is("22: no child " + person, x.buy(0, person, 0), -2);
            DUE.is("22: nobody pays " + person, x.buy(0, 1, person), -2);
        }
    }

    /** Promise 23: "(by ORDERS, too; 16 are kept)": no more than 15 can be, since somebody is nobody's parent. */
    private static void undoAll() {
        BoughtKin x = Land.ladder();
        DUE.is("23: eight by ORDERS", Land.orders(x, "buy 14 - done for 15 - done by 15 times 8"), 8);
        for (int parent = 6; parent >= 0; parent--) {
            DUE.is("23: bought", x.buy(parent, parent + 1, 15), 100);
        }
        DUE.is("23: fifteen can be undone", x.count(5), 15);
        DUE.is("23: the PURSE", x.of(15, 2), 8499);
        for (int parent = 0; parent <= 14; parent++) {
            DUE.is("23: the latest first", x.undo(), parent);
            DUE.is("23: the PURSE has it back", x.of(15, 2), 8599 + 100 * parent);
            DUE.is("23: the LINE", x.line(15, 0), 0x7FFF & ~((2 << parent) - 1));
        }
        DUE.is("23: none is left", x.undo(), -3);
        DUE.is("23: nobody is SOLD", x.count(1), 0);
        for (int house = 0; house < 6; house++) {
            DUE.is("23: CHEST", x.chest(house), 0);
        }
    }

    /** Promise 23: "-3 there is none" */
    private static void undoNothing() {
        BoughtKin x = Land.rich();
        DUE.is("23: none at first", x.undo(), -3);
        x.buy(4, 4, 4);
        DUE.is("23: a buy() that was REFUSED is none", x.undo(), -3);
        Land.orders(x, "year 7");
        DUE.is("23: a YEAR is none", x.undo(), -3);
        Land.orders(x, "buy 2 for 4 by 4;year 1000");
        DUE.is("23: ORDERS that were REFUSED are none", x.undo(), -3);
        DUE.is("23: each was REFUSED", x.count(9), 6);
    }

    /** Promise 23: "(nothing that was ahead of a person(), put(), parent(), row() that was not REFUSED can be undone)" */
    private static void undoNothingAhead() {
        for (int how = 0; how < 6; how++) {
            BoughtKin x = Land.rich();
            x.buy(2, 4, 4);
            int[] answers = {
                how == 0 ? x.person(0, 0, 0, 0) : 0, how == 1 ? x.put(4, 2, 900) : 0, how == 2 ? x.parent(5, 7) : 0,
                how == 3 ? rowOf(x, new byte[5]) : 0, how == 4 ? rowOf(x, new byte[1]) : 0, how == 5 ? x.put(0, 0, 0) : 0};
            DUE.is("23: not REFUSED " + how, Math.min(0, answers[how]), 0);
            DUE.is("23: nothing can be undone " + how, x.count(5), 0);
            DUE.is("23: it is REFUSED " + how, x.undo(), -3);
            DUE.is("23: what was bought stands " + how, x.of(4, 7), 2);
            x.put(6, 2, 500);
            x.buy(4, 6, 6);
            DUE.is("23: what comes behind can be " + how, x.undo(), 4);
            DUE.is("23: and no more " + how, x.undo(), -3);
        }
    }

    private static int rowOf(BoughtKin x, byte[] bytes) {
        Feeding.put(x, bytes);
        return x.row();
    }

    /** The same sentence: those that were REFUSED, and all other calls, leave what can be undone. */
    private static void undoBehindOthers() {
        BoughtKin x = Land.rich();
        x.buy(2, 4, 4);
        x.person(2, 0, 0, 0);
        x.put(8, 0, 0);
        x.put(0, 0, 2);
        x.parent(0, 0);
        x.parent(0, 8);
        x.row();
        x.terms(0, 600);
        Land.law(x, "price 5");
        Land.law(x, "?");
        Land.orders(x, "year 500");
        Land.orders(x, "year 1000");
        x.force(-1);
        x.buy(4, 4, 4);
        x.claim(0, 1);
        x.dismiss();
        x.sight(0, 1, 1);
        x.forget();
        x.fair(5, 60);
        x.image(0);
        x.back(1);
        x.back(2);
        x.cheap(4, -1, 0);
        x.join(0, 1, 0);
        DUE.is("23: can be undone still", x.count(5), 1);
        DUE.is("23: undone", x.undo(), 2);
        DUE.is("23: the PURSE", x.of(4, 2), 1000);
        for (int i = 0; i < 14; i++) {
            x.person(0, 0, 0, 0);
        }
        x.buy(2, 4, 4);
        DUE.is("23: no room for one more", x.person(0, 0, 0, 0), -5);
        DUE.is("23: can be undone behind that", x.undo(), 2);
    }

    /** Promise 24: "NONE." */
    private static void offersOfNobody() {
        BoughtKin x = Land.men(15);
        for (int person : Land.outside(0, 14)) {
            DUE.is("24: no child " + person, x.offers(person, 0), -1);
            DUE.is("24: nobody pays " + person, x.offers(0, person), -1);
        }
        DUE.is("24: nobody fits", x.offers(14, 14), 0);
        DUE.is("24: NONE is no refusal", x.count(8) + x.status(), 0);
    }

    /** Promise 24: "Parents who can be bought for a child by one who pays, as bits." */
    private static void offersAsBits() {
        BoughtKin x = new BoughtKin();
        x.person(0, 430, 60, 0);
        x.put(0, 2, 100);
        for (int i = 1; i < 16; i++) {
            x.person(i % 2, 400 + i, 60, 0);
        }
        DUE.is("24: all who FIT, 1 to 14", x.offers(0, 0), 0x7FFE);
        x.terms(2, 15);
        DUE.is("24: 15, too", x.offers(0, 0), 0xFFFE);
        DUE.is("24: one who is no KIN pays", x.offers(0, 1), 0);
        x.buy(15, 0, 0);
        DUE.is("24: the PURSE is empty", x.offers(0, 0), 0);
        Land.law(x, "price 0");
        DUE.is("24: FATHERS for nothing", x.offers(0, 0), 0x5554);
    }

    public static void main(String[] args) {
        stepsUp();
        kinOrNot();
        fewestSteps();
        lowestCommon();
        kinOfNobody();
        wholeLine();
        nobodyIsFirst();
        debtsEachOnce();
        sixQuarters();
        grandOnBothSides();
        livesFromTo();
        fartherThanTheBan();
        bothLive();
        marriesNobody();
        heirs();
        lineOfNobody();
        datesByTheGap();
        datesOfAMother();
        datesOfAFather();
        forgedChildren();
        asksOfNobody();
        whoPays();
        hasNoneOfThatSex();
        notSold();
        notBelowTheChild();
        purchaseByDates();
        purchaseBarred();
        purseHasThePrice();
        paid();
        buyOfNobody();
        undoAll();
        undoNothing();
        undoNothingAhead();
        undoBehindOthers();
        offersOfNobody();
        offersAsBits();
        DUE.end();
    }
}
