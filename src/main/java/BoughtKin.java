import java.util.Arrays;

/** A country in which forebears are for sale. The document tells what each call answers. */
public final class BoughtKin {
    public static final int NONE = -1;

    private static final int MOST_PEOPLE = 16;
    private static final int MOST_FAMILIES = 6;
    private static final int MOST_LAWS = 6;
    private static final int MOST_CLAIMS = 8;
    private static final int MOST_SIGHTS = 8;
    private static final int MOST_KEPT = 16;
    private static final int MOST_IMAGES = 2;
    private static final int MOST_FAR = 20;
    private static final int MOST_TRIED = 60;
    private static final int MOST_SEED = 1000000;

    private static final int LAST_BORN = 999;
    private static final int MOST_LIVED = 120;
    private static final int MOST_DEBT = 99;
    private static final int MOST_PURSE = 9999;
    private static final int MOST_PRICE = 9999;
    private static final int MOST_RANK = 99;
    private static final int PLAIN_PRICE = 100;
    private static final int NOBLE_PRICE = 200;

    private static final int YEAR = 0;
    private static final int BAN = 1;
    private static final int GAP = 2;
    private static final int MOOD = 3;
    private static final int[] LEAST_TERMS = {0, 0, 12, 0};
    private static final int[] MOST_TERMS = {999, 9, 40, 9};

    private static final int NO_NUMBER = -1;
    private static final int NO_SUCH = -2;
    private static final int CANNOT_BE = -3;
    private static final int NO_ROOM = -5;
    private static final int NO_TEXT = -6;

    private static final int MOST_BYTES = 400;
    private static final int FED_BYTES = 20;
    private static final int ROW_BYTES = 5;
    private static final int MOST_CLAUSES = 12;
    private static final int MOST_PARTS = 50;
    private static final int MOST_BRACKETS = 8;
    private static final int MOST_NUMBER = 1000;
    private static final int MOST_TIMES = 20;
    private static final long MOST_SUM = 1000000000L;

    /** What a CLAUSE does. */
    private static final int PRICE = 0;
    private static final int RANKS = 1;
    private static final int BARS = 2;
    private static final int BUY = 3;
    private static final int SET_YEAR = 4;

    /** A CLAUSE has three places for SUMS, then one for the TEST behind "if". */
    private static final int SEGMENTS = 4;
    private static final int TEST_SEGMENT = 3;

    /** What is done in the code that a TEXT becomes. */
    private static final int PUSH_NUMBER = 0;
    private static final int PUSH_WORD = 1;
    private static final int ADD = 2;
    private static final int SUBTRACT = 3;
    private static final int MULTIPLY = 4;
    private static final int DIVIDE = 5;
    private static final int REST = 6;
    private static final int BELOW = 7;
    private static final int ABOVE = 8;
    private static final int SAME = 9;
    private static final int NOT = 10;
    private static final int AND = 11;
    private static final int OR = 12;

    /** TOKENS by number: a sign is its byte, a word stands in WORDS, a NUMBER is behind all of these. */
    private static final int END_TOKEN = -1;
    private static final int UNKNOWN_TOKEN = 256;
    private static final int FIRST_WORD = 257;
    private static final int FIRST_NUMBER = 1000;
    private static final String WORDS =
            "price ranks bars buy for by times if or and not born lived noble debt family side age own year mood now people done last purse kin ";
    private static final int PRICE_TOKEN = FIRST_WORD;
    private static final int RANKS_TOKEN = FIRST_WORD + 1;
    private static final int BARS_TOKEN = FIRST_WORD + 2;
    private static final int BUY_TOKEN = FIRST_WORD + 3;
    private static final int FOR_TOKEN = FIRST_WORD + 4;
    private static final int BY_TOKEN = FIRST_WORD + 5;
    private static final int TIMES_TOKEN = FIRST_WORD + 6;
    private static final int IF_TOKEN = FIRST_WORD + 7;
    private static final int OR_TOKEN = FIRST_WORD + 8;
    private static final int AND_TOKEN = FIRST_WORD + 9;
    private static final int NOT_TOKEN = FIRST_WORD + 10;
    private static final int BORN_TOKEN = FIRST_WORD + 11;
    private static final int YEAR_TOKEN = FIRST_WORD + 19;
    private static final int NOW_TOKEN = FIRST_WORD + 21;
    private static final int PURSE_TOKEN = FIRST_WORD + 25;
    private static final int KIN_TOKEN = FIRST_WORD + 26;

    /** Words of LAWS are numbered as they stand in WORDS, from "born" to "mood". */
    private static final int LAW_WORDS = 10;

    /** Words of ORDERS: four plain ones as they stand in WORDS, a purse for each P, a kin for each P, Q. */
    private static final int NOW_WORD = 0;
    private static final int PEOPLE_WORD = 1;
    private static final int DONE_WORD = 2;
    private static final int PURSE_WORD = 4;
    private static final int KIN_WORD = PURSE_WORD + MOST_PEOPLE;
    private static final int ORDER_WORDS = KIN_WORD + MOST_PEOPLE * MOST_PEOPLE;

    private final Country country = new Country();
    private final Country[] images = new Country[MOST_IMAGES];
    private final boolean[] imageKept = new boolean[MOST_IMAGES];
    private final Tape tape = new Tape();
    private final Reader reader = new Reader(tape);
    private final Kinship kinship = new Kinship();
    private final Ledger ledger = new Ledger();
    private final Court court;
    private final Clerk clerk;
    private final Search search;
    private final int[] refusals = new int[5];
    private int lastFault = NONE;
    private int lastStopped = NONE;
    private int lastMould;
    private int lastStatus;

    public BoughtKin() {
        Reckoner reckoner = new Reckoner();
        court = new Court(country, reckoner);
        clerk = new Clerk(country, court, kinship, reckoner, ledger);
        search = new Search(country, court, kinship);
        for (int k = 0; k < MOST_IMAGES; k++) {
            images[k] = new Country();
        }
    }

    public int person(int sex, int born, int lived, int house) {
        if (!People.canBe(sex, born, lived, house)) {
            return refuse(NO_NUMBER);
        }
        int number = country.people.settle(sex, born, lived, house);
        if (number == NONE) {
            return refuse(NO_ROOM);
        }
        ledger.clear();
        return accept(number);
    }

    public int put(int person, int what, int value) {
        int most = what == 0 ? 1 : what == 1 ? MOST_DEBT : MOST_PURSE;
        if (what < 0 || what > 2 || value < 0 || value > most) {
            return refuse(NO_NUMBER);
        }
        People people = country.people;
        if (!people.has(person)) {
            return refuse(NO_SUCH);
        }
        int[] values = what == 0 ? people.noble : what == 1 ? people.debt : people.purse;
        int was = values[person];
        values[person] = value;
        ledger.clear();
        return accept(was);
    }

    public int of(int person, int what) {
        People people = country.people;
        if (!people.has(person)) {
            return NONE;
        }
        switch (what) {
            case 0: return people.noble[person];
            case 1: return people.debt[person];
            case 2: return people.purse[person];
            case 3: return people.sex[person];
            case 4: return people.born[person];
            case 5: return people.lived[person];
            case 6: return people.house[person];
            case 7: return people.father[person];
            case 8: return people.mother[person];
            case 9: return people.isSold(person) ? 1 : 0;
            case 10: return court.rank(person);
            default: return NONE;
        }
    }

    public int parent(int parent, int child) {
        People people = country.people;
        if (!people.has(parent) || !people.has(child)) {
            return refuse(NO_SUCH);
        }
        if (!people.hasPlaceFor(parent, child)) {
            return refuse(CANNOT_BE);
        }
        people.tie(parent, child);
        ledger.clear();
        return accept(0);
    }

    public int terms(int what, int value) {
        if (!country.termCanBe(what, value)) {
            return refuse(NO_NUMBER);
        }
        int was = country.terms[what];
        country.terms[what] = value;
        return accept(was);
    }

    public int chest(int house) {
        return house < 0 || house >= MOST_FAMILIES ? NONE : country.people.chests[house];
    }

    public int feed(int a, int b, int c, int d, int e) {
        if (tape.size > MOST_BYTES - FED_BYTES) {
            return NONE;
        }
        tape.append(a);
        tape.append(b);
        tape.append(c);
        tape.append(d);
        tape.append(e);
        return tape.size;
    }

    public int end(int n) {
        if (n < 0 || n > tape.size) {
            return NONE;
        }
        tape.size = n;
        return n;
    }

    public int row() {
        if (tape.size == 0) {
            return refuse(NO_TEXT);
        }
        int came = 0;
        int mouldy = 0;
        for (int at = 0; at < tape.size; at += ROW_BYTES) {
            if (settleFromTape(at)) {
                came++;
            } else {
                mouldy++;
            }
        }
        tape.size = 0;
        lastMould = mouldy;
        ledger.clear();
        return accept(came);
    }

    private boolean settleFromTape(int at) {
        if (at + ROW_BYTES > tape.size) {
            return false;
        }
        int sex = tape.byteAt(at);
        int born = tape.byteAt(at + 1) * 256 + tape.byteAt(at + 2);
        int lived = tape.byteAt(at + 3);
        int house = tape.byteAt(at + 4);
        return People.canBe(sex, born, lived, house)
                && country.people.settle(sex, born, lived, house) != NONE;
    }

    public int mould() {
        return lastMould;
    }

    public int law() {
        if (country.lawCount >= MOST_LAWS) {
            tape.size = 0;
            return refuse(NO_ROOM);
        }
        boolean read = reader.read(false);
        lastFault = reader.fault;
        tape.size = 0;
        if (!read) {
            return refuse(NO_TEXT);
        }
        int number = country.lawCount;
        country.laws[number] = reader.script.trimmed();
        country.lawCount = number + 1;
        return accept(number);
    }

    public int orders() {
        boolean read = reader.read(true);
        lastFault = reader.fault;
        lastStopped = NONE;
        tape.size = 0;
        if (!read) {
            return refuse(NO_TEXT);
        }
        lastStopped = clerk.obey(reader.script);
        return lastStopped == NONE ? accept(clerk.done) : refuse(CANNOT_BE);
    }

    public int fault() {
        return lastFault;
    }

    public int stopped() {
        return lastStopped;
    }

    public int force(int law) {
        if (law < NONE || law >= country.lawCount) {
            return refuse(NO_SUCH);
        }
        int was = country.inForce;
        country.inForce = law;
        return accept(was);
    }

    public int asks(int parent, int child, int what) {
        People people = country.people;
        if (!people.has(parent) || !people.has(child) || parent == child) {
            return NONE;
        }
        switch (what) {
            case 0: return court.price(parent, child);
            case 1: return court.isBarred(parent, child) ? 1 : 0;
            case 2: return people.datesFit(parent, child, country.terms[GAP]) ? 1 : 0;
            default: return NONE;
        }
    }

    public int kin(int one, int other, int what) {
        People people = country.people;
        if (!people.has(one) || !people.has(other)) {
            return NONE;
        }
        switch (what) {
            case 0: return kinship.apart(people, one, other);
            case 1: return kinship.nearestCommon(people, one, other);
            case 2: return kinship.stepsUp(people, one, other);
            default: return NONE;
        }
    }

    public int line(int person, int what) {
        People people = country.people;
        if (!people.has(person)) {
            return NONE;
        }
        switch (what) {
            case 0: return people.line[person];
            case 1: return people.descendants(person);
            case 2: return people.debtsOf(person);
            case 3: return people.quarters(person, court.ranked());
            case 4: return people.isGrand(person, court.ranked()) ? 1 : 0;
            case 5: return kinship.heir(people, person, country.terms[YEAR]);
            default: return NONE;
        }
    }

    public int marry(int one, int other) {
        People people = country.people;
        if (!people.has(one) || !people.has(other)) {
            return NONE;
        }
        return kinship.mayMarry(people, one, other, country.terms) ? 1 : 0;
    }

    public int forged() {
        return country.people.forgedChildren(country.terms[GAP]);
    }

    public int buy(int parent, int child, int payer) {
        People people = country.people;
        if (!people.has(parent) || !people.has(child) || !people.has(payer)) {
            return refuse(NO_SUCH);
        }
        int price = court.offer(people, parent, child, payer);
        if (price == NONE) {
            return refuse(CANNOT_BE);
        }
        people.trade(parent, child, payer, price);
        ledger.write(parent, child, payer, price);
        return accept(price);
    }

    public int undo() {
        int parent = ledger.undoLatest(country.people);
        return parent == NONE ? refuse(CANNOT_BE) : accept(parent);
    }

    public int offers(int child, int payer) {
        People people = country.people;
        if (!people.has(child) || !people.has(payer)) {
            return NONE;
        }
        int bits = 0;
        for (int parent = 0; parent < people.size; parent++) {
            if (court.offer(people, parent, child, payer) != NONE) {
                bits |= 1 << parent;
            }
        }
        return bits;
    }

    public int cheap(int payer, int other, int what) {
        People people = country.people;
        if (!people.has(payer) || (other != NONE && !people.has(other)) || what < 0 || what > 3) {
            return NONE;
        }
        if (!search.findCheap(payer, other)) {
            return NONE;
        }
        switch (what) {
            case 0: return search.leastPrice;
            case 1: return search.leastCount;
            case 2: return search.firstCode;
            default: return search.secondCode;
        }
    }

    public int join(int one, int other, int what) {
        People people = country.people;
        if (!people.has(one) || !people.has(other) || what < 0 || what > 1) {
            return NONE;
        }
        int purchases = search.findJoin(one, other);
        return what == 0 || purchases == NONE ? purchases : search.rows;
    }

    public int claim(int parent, int child) {
        if (parent == child) {
            return refuse(NO_NUMBER);
        }
        if (!country.people.has(parent) || !country.people.has(child)) {
            return refuse(NO_SUCH);
        }
        if (country.claims >= MOST_CLAIMS) {
            return refuse(NO_ROOM);
        }
        country.claimParent[country.claims] = parent;
        country.claimChild[country.claims] = child;
        country.claims++;
        return accept(country.claims);
    }

    public int dismiss() {
        int were = country.claims;
        country.claims = 0;
        return were;
    }

    public int lies(int what) {
        if (what < 0 || what > 1) {
            return NONE;
        }
        int left = search.findLies();
        return what == 0 ? Integer.bitCount(left) : left;
    }

    public int sight(int one, int other, int far) {
        if (far < NONE || far > MOST_FAR) {
            return refuse(NO_NUMBER);
        }
        if (!country.people.has(one) || !country.people.has(other)) {
            return refuse(NO_SUCH);
        }
        if (country.sights >= MOST_SIGHTS) {
            return refuse(NO_ROOM);
        }
        country.sightOne[country.sights] = one;
        country.sightOther[country.sights] = other;
        country.sightFar[country.sights] = far;
        country.sights++;
        return accept(country.sights);
    }

    public int forget() {
        int were = country.sights;
        country.sights = 0;
        return were;
    }

    public int secret(int i) {
        if (i < NONE || i >= MOST_PEOPLE * MOST_PEOPLE) {
            return NONE;
        }
        int many = search.findSecrets();
        if (i == NONE) {
            return many;
        }
        return i < many ? search.secretCodes[i] : NONE;
    }

    public int fair(int seed, int n) {
        if (seed < 0 || seed > MOST_SEED || n < 1 || n > MOST_TRIED) {
            return refuse(NO_NUMBER);
        }
        if (country.people.size == 0) {
            return refuse(CANNOT_BE);
        }
        return accept(search.holdFair(seed, n));
    }

    public int drawn(int person, int what) {
        People paper = search.fairPaper;
        if (!paper.has(person)) {
            return NONE;
        }
        switch (what) {
            case 0: return paper.purse[person];
            case 1: return paper.line[person];
            default: return NONE;
        }
    }

    public int image(int k) {
        if (k < 0 || k >= MOST_IMAGES) {
            return refuse(NO_NUMBER);
        }
        images[k].copyFrom(country);
        imageKept[k] = true;
        return accept(0);
    }

    public int back(int k) {
        if (k < 0 || k >= MOST_IMAGES) {
            return refuse(NO_NUMBER);
        }
        if (!imageKept[k]) {
            return refuse(NO_SUCH);
        }
        country.copyFrom(images[k]);
        ledger.clear();
        return accept(0);
    }

    public int count(int what) {
        if (what >= 7 && what <= 11) {
            return refusals[what - 7];
        }
        if (what >= 13 && what <= 16) {
            return country.terms[what - 13];
        }
        switch (what) {
            case 0: return country.people.size;
            case 1: return Integer.bitCount(country.people.sold);
            case 2: return country.claims;
            case 3: return country.sights;
            case 4: return country.lawCount;
            case 5: return ledger.size;
            case 6: return tape.size;
            case 12: return country.inForce;
            default: return NONE;
        }
    }

    public int status() {
        return lastStatus;
    }

    private int accept(int answer) {
        lastStatus = 0;
        return answer;
    }

    private int refuse(int why) {
        lastStatus = why;
        switch (why) {
            case NO_NUMBER: refusals[0]++; break;
            case NO_SUCH: refusals[1]++; break;
            case CANNOT_BE: refusals[2]++; break;
            case NO_ROOM: refusals[3]++; break;
            default: refusals[4]++; break;
        }
        return why;
    }

    private static int within(int value, int least, int most) {
        return Math.max(least, Math.min(most, value));
    }

    /** PEOPLE, the CHESTS of FAMILIES, and who is whose parent; a second one serves as paper. */
    private static final class People {
        int size;
        int sold;
        final int[] sex = new int[MOST_PEOPLE];
        final int[] born = new int[MOST_PEOPLE];
        final int[] lived = new int[MOST_PEOPLE];
        final int[] noble = new int[MOST_PEOPLE];
        final int[] debt = new int[MOST_PEOPLE];
        final int[] house = new int[MOST_PEOPLE];
        final int[] purse = new int[MOST_PEOPLE];
        final int[] father = new int[MOST_PEOPLE];
        final int[] mother = new int[MOST_PEOPLE];
        /** The LINE of each as bits, kept up with every tie, since most questions ask for it. */
        final int[] line = new int[MOST_PEOPLE];
        final int[] chests = new int[MOST_FAMILIES];

        static boolean canBe(int sex, int born, int lived, int house) {
            return sex >= 0 && sex <= 1 && born >= 0 && born <= LAST_BORN
                    && lived >= 0 && lived <= MOST_LIVED && house >= 0 && house < MOST_FAMILIES;
        }

        void copyFrom(People other) {
            size = other.size;
            System.arraycopy(other.sex, 0, sex, 0, MOST_PEOPLE);
            System.arraycopy(other.born, 0, born, 0, MOST_PEOPLE);
            System.arraycopy(other.lived, 0, lived, 0, MOST_PEOPLE);
            System.arraycopy(other.noble, 0, noble, 0, MOST_PEOPLE);
            System.arraycopy(other.debt, 0, debt, 0, MOST_PEOPLE);
            System.arraycopy(other.house, 0, house, 0, MOST_PEOPLE);
            System.arraycopy(other.purse, 0, purse, 0, MOST_PEOPLE);
            System.arraycopy(other.chests, 0, chests, 0, MOST_FAMILIES);
            copyTiesFrom(other);
        }

        void copyTiesFrom(People other) {
            sold = other.sold;
            System.arraycopy(other.father, 0, father, 0, MOST_PEOPLE);
            System.arraycopy(other.mother, 0, mother, 0, MOST_PEOPLE);
            System.arraycopy(other.line, 0, line, 0, MOST_PEOPLE);
        }

        boolean has(int person) {
            return person >= 0 && person < size;
        }

        int settle(int newSex, int newBorn, int newLived, int newHouse) {
            if (size >= MOST_PEOPLE) {
                return NONE;
            }
            int number = size;
            sex[number] = newSex;
            born[number] = newBorn;
            lived[number] = newLived;
            house[number] = newHouse;
            noble[number] = 0;
            debt[number] = 0;
            purse[number] = 0;
            father[number] = NONE;
            mother[number] = NONE;
            line[number] = 0;
            size = number + 1;
            return number;
        }

        boolean isSold(int person) {
            return (sold >> person & 1) == 1;
        }

        boolean isInLine(int forebear, int person) {
            return (line[person] >> forebear & 1) == 1;
        }

        boolean isSelfOrInLine(int forebear, int person) {
            return forebear == person || (line[person] >> forebear & 1) == 1;
        }

        int withLine(int person) {
            return person == NONE ? 0 : line[person] | 1 << person;
        }

        boolean livesIn(int person, int year) {
            return year >= born[person] && year < born[person] + lived[person];
        }

        boolean datesFit(int parent, int child, int gap) {
            int later = born[child] - born[parent];
            int latest = sex[parent] == 0 ? lived[parent] : lived[parent] - 1;
            return later >= gap && later <= latest;
        }

        int parentOf(int child, int side) {
            return side == 0 ? father[child] : mother[child];
        }

        boolean hasPlaceFor(int parent, int child) {
            return parentOf(child, sex[parent]) == NONE && !isSelfOrInLine(child, parent);
        }

        /** A PURCHASE but for who pays, the PRICE and what BARS it. */
        boolean couldBeBought(int parent, int child, int gap) {
            return !isSold(parent) && hasPlaceFor(parent, child) && datesFit(parent, child, gap);
        }

        void setParent(int child, int side, int parent) {
            if (side == 0) {
                father[child] = parent;
            } else {
                mother[child] = parent;
            }
        }

        void tie(int parent, int child) {
            setParent(child, sex[parent], parent);
            int added = withLine(parent);
            for (int person = 0; person < size; person++) {
                if (isSelfOrInLine(child, person)) {
                    line[person] |= added;
                }
            }
        }

        void sell(int parent, int child) {
            tie(parent, child);
            sold |= 1 << parent;
        }

        /** Leaves the LINES to the caller: paper has them written down, the country reckons them anew. */
        void unsell(int parent, int child) {
            setParent(child, sex[parent], NONE);
            sold &= ~(1 << parent);
        }

        void trade(int parent, int child, int payer, int price) {
            sell(parent, child);
            purse[payer] -= price;
            chests[house[parent]] += price;
        }

        void reckonLines() {
            Arrays.fill(line, 0);
            boolean grown = true;
            for (int round = 0; round < size && grown; round++) {
                grown = false;
                for (int person = 0; person < size; person++) {
                    int bits = withLine(father[person]) | withLine(mother[person]);
                    grown |= bits != line[person];
                    line[person] = bits;
                }
            }
        }

        int descendants(int person) {
            int bits = 0;
            for (int other = 0; other < size; other++) {
                if (isInLine(person, other)) {
                    bits |= 1 << other;
                }
            }
            return bits;
        }

        int debtsOf(int person) {
            int sum = 0;
            for (int other = 0; other < size; other++) {
                if (isSelfOrInLine(other, person)) {
                    sum += debt[other];
                }
            }
            return sum;
        }

        int quarters(int person, int ranked) {
            int filled = 0;
            for (int side = 0; side < 2; side++) {
                int parent = parentOf(person, side);
                if (parent != NONE) {
                    filled += (ranked >> parent & 1) + rankedParents(parent, ranked);
                }
            }
            return filled;
        }

        private int rankedParents(int person, int ranked) {
            int many = 0;
            if (father[person] != NONE) {
                many += ranked >> father[person] & 1;
            }
            if (mother[person] != NONE) {
                many += ranked >> mother[person] & 1;
            }
            return many;
        }

        boolean isGrand(int person, int ranked) {
            return (withLine(father[person]) & ranked) != 0 && (withLine(mother[person]) & ranked) != 0;
        }

        int forgedChildren(int gap) {
            int bits = 0;
            for (int child = 0; child < size; child++) {
                boolean fatherFits = father[child] == NONE || datesFit(father[child], child, gap);
                boolean motherFits = mother[child] == NONE || datesFit(mother[child], child, gap);
                if (!fatherFits || !motherFits) {
                    bits |= 1 << child;
                }
            }
            return bits;
        }
    }

    /** All that an IMAGE keeps. */
    private static final class Country {
        final People people = new People();
        final int[] terms = {500, 4, 16, 0};
        /** A LAW is never changed once it is made, so that IMAGES may share it. */
        final Script[] laws = new Script[MOST_LAWS];
        int lawCount;
        int inForce = NONE;
        final int[] claimParent = new int[MOST_CLAIMS];
        final int[] claimChild = new int[MOST_CLAIMS];
        int claims;
        final int[] sightOne = new int[MOST_SIGHTS];
        final int[] sightOther = new int[MOST_SIGHTS];
        final int[] sightFar = new int[MOST_SIGHTS];
        int sights;

        void copyFrom(Country other) {
            people.copyFrom(other.people);
            System.arraycopy(other.terms, 0, terms, 0, terms.length);
            for (int i = 0; i < MOST_LAWS; i++) {
                laws[i] = other.laws[i];
            }
            lawCount = other.lawCount;
            inForce = other.inForce;
            System.arraycopy(other.claimParent, 0, claimParent, 0, MOST_CLAIMS);
            System.arraycopy(other.claimChild, 0, claimChild, 0, MOST_CLAIMS);
            claims = other.claims;
            System.arraycopy(other.sightOne, 0, sightOne, 0, MOST_SIGHTS);
            System.arraycopy(other.sightOther, 0, sightOther, 0, MOST_SIGHTS);
            System.arraycopy(other.sightFar, 0, sightFar, 0, MOST_SIGHTS);
            sights = other.sights;
        }

        boolean termCanBe(int what, int value) {
            return what >= YEAR && what <= MOOD && value >= LEAST_TERMS[what] && value <= MOST_TERMS[what];
        }

        /** null: no LAW is in FORCE. */
        Script lawInForce() {
            return inForce < 0 || inForce >= lawCount ? null : laws[inForce];
        }
    }

    /** The TAPE, read TOKEN by TOKEN. */
    private static final class Tape {
        private static final int BLANK = 32;

        private final int[] bytes = new int[MOST_BYTES];
        int size;
        private final int[] places = new int[MOST_BYTES];
        private final int[] tokens = new int[MOST_BYTES];
        private int many;
        private int current;
        /** The current TOKEN, and where it begins: at the end the TEXT's length. */
        int token = END_TOKEN;
        int place;

        void append(int four) {
            for (int shift = 24; shift >= 0 && size < MOST_BYTES; shift -= 8) {
                bytes[size] = four >>> shift & 255;
                size++;
            }
        }

        int byteAt(int at) {
            return at >= 0 && at < size ? bytes[at] : 0;
        }

        /** Finds all TOKENS, numbered once, since each is looked at many times; the first is the current one then. */
        void split() {
            String words = WORDS;
            many = 0;
            int behind = 0;
            for (int at = 0; at < size; at++) {
                if (at < behind || bytes[at] == BLANK) {
                    continue;
                }
                places[many] = at;
                if (isLetter(bytes[at])) {
                    behind = behindRow(at, true);
                    tokens[many] = wordToken(words, at, behind);
                } else if (isDigit(bytes[at])) {
                    behind = behindRow(at, false);
                    tokens[many] = numberToken(at, behind);
                } else {
                    tokens[many] = bytes[at];
                }
                many++;
            }
            current = -1;
            step();
        }

        private static boolean isLetter(int sign) {
            return sign >= 'a' && sign <= 'z';
        }

        private static boolean isDigit(int sign) {
            return sign >= '0' && sign <= '9';
        }

        private int behindRow(int start, boolean ofLetters) {
            int at = start + 1;
            for (int i = 0; i < MOST_BYTES && at < size; i++) {
                if (ofLetters ? !isLetter(bytes[at]) : !isDigit(bytes[at])) {
                    return at;
                }
                at++;
            }
            return at;
        }

        /** Compares the word to each in the row of words, of which each has a blank behind it. */
        private int wordToken(String words, int start, int behind) {
            int number = FIRST_WORD;
            int matched = 0;
            boolean same = true;
            for (int i = 0; i < words.length(); i++) {
                char sign = words.charAt(i);
                if (sign != ' ') {
                    same = same && matched < behind - start && bytes[start + matched] == sign;
                    matched++;
                } else if (same && matched == behind - start) {
                    return number;
                } else {
                    number++;
                    matched = 0;
                    same = true;
                }
            }
            return UNKNOWN_TOKEN;
        }

        /** A large NUMBER is cut to one that is still too large. */
        private int numberToken(int start, int behind) {
            int value = 0;
            for (int at = start; at < behind; at++) {
                value = Math.min(value * 10 + bytes[at] - '0', MOST_NUMBER + 1);
            }
            return FIRST_NUMBER + value;
        }

        void step() {
            current = Math.min(current + 1, many);
            token = current < many ? tokens[current] : END_TOKEN;
            place = current < many ? places[current] : size;
        }
    }

    /** A TEXT as code: of each CLAUSE what it does, how often, and where its SUMS and its TEST are. */
    private static final class Script {
        int clauses;
        int length;
        final int[] kind;
        final int[] times;
        final int[] from;
        final int[] till;
        final int[] operation;
        final int[] operand;

        Script(int clauseRoom, int codeRoom) {
            int many = within(clauseRoom, 0, MOST_CLAUSES);
            int longest = within(codeRoom, 0, MOST_BYTES);
            kind = new int[many];
            times = new int[many];
            from = new int[many * SEGMENTS];
            till = new int[many * SEGMENTS];
            operation = new int[longest];
            operand = new int[longest];
        }

        Script trimmed() {
            Script copy = new Script(clauses, length);
            copy.clauses = clauses;
            copy.length = length;
            System.arraycopy(kind, 0, copy.kind, 0, clauses);
            System.arraycopy(times, 0, copy.times, 0, clauses);
            System.arraycopy(from, 0, copy.from, 0, clauses * SEGMENTS);
            System.arraycopy(till, 0, copy.till, 0, clauses * SEGMENTS);
            System.arraycopy(operation, 0, copy.operation, 0, length);
            System.arraycopy(operand, 0, copy.operand, 0, length);
            return copy;
        }

        void clear() {
            clauses = 0;
            length = 0;
        }

        void begin(int newKind) {
            if (clauses >= kind.length) {
                return;
            }
            kind[clauses] = newKind;
            times[clauses] = 1;
            for (int i = clauses * SEGMENTS; i < (clauses + 1) * SEGMENTS; i++) {
                from[i] = length;
                till[i] = length;
            }
            clauses++;
        }

        /** Where it is; NONE without room, which a TAPE can't fill: each TOKEN adds one at most. */
        int add(int what, int with) {
            if (length >= operation.length) {
                return NONE;
            }
            operation[length] = what;
            operand[length] = with;
            length++;
            return length - 1;
        }

        void landHere(int jump) {
            if (jump >= 0 && jump < length) {
                operand[jump] = length;
            }
        }

        void openSegment(int segment) {
            int at = (clauses - 1) * SEGMENTS + segment;
            if (at >= 0 && at < from.length) {
                from[at] = length;
            }
        }

        void closeSegment(int segment) {
            int at = (clauses - 1) * SEGMENTS + segment;
            if (at >= 0 && at < till.length) {
                till[at] = length;
            }
        }

        void setTimes(int many) {
            if (clauses > 0) {
                times[clauses - 1] = many;
            }
        }

        boolean lacks(int clause, int segment) {
            int at = clause * SEGMENTS + segment;
            return at < 0 || at >= from.length || from[at] >= till[at];
        }
    }

    /** Reads a TEXT of either language; behind the FAULT nothing more is read. */
    private static final class Reader {
        private final Tape tape;
        final Script script = new Script(MOST_CLAUSES, MOST_BYTES);
        int fault = NONE;
        private boolean ofOrders;
        private int parts;
        private int brackets;

        Reader(Tape tape) {
            this.tape = tape;
        }

        boolean read(boolean asOrders) {
            ofOrders = asOrders;
            fault = NONE;
            parts = 0;
            brackets = 0;
            script.clear();
            tape.split();
            boolean more = true;
            for (int i = 0; i < MOST_CLAUSES && more; i++) {
                if (ofOrders) {
                    orderHead();
                } else {
                    lawHead();
                }
                if (took(IF_TOKEN)) {
                    script.openSegment(TEST_SEGMENT);
                    test();
                    script.closeSegment(TEST_SEGMENT);
                }
                more = took(';');
            }
            if (more || tape.token != END_TOKEN) {
                blame();
            }
            return fault == NONE;
        }

        private void blame() {
            if (fault == NONE) {
                fault = tape.place;
            }
        }

        private boolean sees(int token) {
            return fault == NONE && tape.token == token;
        }

        private boolean took(int token) {
            boolean seen = fault == NONE && tape.token == token;
            if (seen) {
                tape.step();
            }
            return seen;
        }

        private void need(int token) {
            if (!took(token)) {
                blame();
            }
        }

        private int neededNumber(int least, int most) {
            int value = tape.token - FIRST_NUMBER;
            if (fault != NONE || value < least || value > most) {
                blame();
                return least;
            }
            tape.step();
            return value;
        }

        private void lawHead() {
            if (took(PRICE_TOKEN)) {
                script.begin(PRICE);
                sumInto(0);
            } else if (took(RANKS_TOKEN)) {
                script.begin(RANKS);
                sumInto(0);
            } else if (took(BARS_TOKEN)) {
                script.begin(BARS);
            } else {
                blame();
            }
        }

        private void orderHead() {
            if (took(BUY_TOKEN)) {
                script.begin(BUY);
                sumInto(0);
                need(FOR_TOKEN);
                sumInto(1);
                need(BY_TOKEN);
                sumInto(2);
            } else if (took(YEAR_TOKEN)) {
                script.begin(SET_YEAR);
                sumInto(0);
            } else {
                blame();
            }
            if (took(TIMES_TOKEN)) {
                script.setTimes(neededNumber(1, MOST_TIMES));
            }
        }

        private void sumInto(int segment) {
            script.openSegment(segment);
            sum();
            script.closeSegment(segment);
        }

        private void test() {
            both();
            for (int i = 0; i < MOST_BYTES && took(OR_TOKEN); i++) {
                int jump = script.add(OR, 0);
                both();
                script.landHere(jump);
            }
        }

        private void both() {
            plain();
            for (int i = 0; i < MOST_BYTES && took(AND_TOKEN); i++) {
                int jump = script.add(AND, 0);
                plain();
                script.landHere(jump);
            }
        }

        /** A row of "not" is counted, not climbed into: a TAPE has room for a hundred. */
        private void plain() {
            boolean turned = false;
            for (int i = 0; i < MOST_BYTES && took(NOT_TOKEN); i++) {
                turned = !turned;
            }
            if (entered('(')) {
                test();
                need(')');
                brackets--;
            } else {
                sum();
                int how = tookComparison();
                sum();
                script.add(how, 0);
            }
            if (turned) {
                script.add(NOT, 0);
            }
        }

        private int tookComparison() {
            if (took('<')) {
                return BELOW;
            }
            if (took('>')) {
                return ABOVE;
            }
            need('=');
            return SAME;
        }

        private void sum() {
            term();
            for (int i = 0; i < MOST_BYTES && (sees('+') || sees('-')); i++) {
                int how = tape.token == '+' ? ADD : SUBTRACT;
                tape.step();
                term();
                script.add(how, 0);
            }
        }

        private void term() {
            part();
            for (int i = 0; i < MOST_BYTES && (sees('*') || sees('/') || sees('%')); i++) {
                int how = tape.token == '*' ? MULTIPLY : tape.token == '/' ? DIVIDE : REST;
                tape.step();
                part();
                script.add(how, 0);
            }
        }

        private void part() {
            if (entered('[')) {
                sum();
                need(']');
                brackets--;
                return;
            }
            if (parts >= MOST_PARTS) {
                blame();
            }
            if (fault != NONE) {
                return;
            }
            parts++;
            if (tape.token >= FIRST_NUMBER) {
                script.add(PUSH_NUMBER, neededNumber(0, MOST_NUMBER));
            } else {
                script.add(PUSH_WORD, ofOrders ? orderWord() : lawWord());
            }
        }

        /** A bracket too many is the FAULT, and not gone into. */
        private boolean entered(int bracket) {
            if (fault != NONE || tape.token != bracket) {
                return false;
            }
            if (brackets >= MOST_BRACKETS) {
                blame();
                return false;
            }
            brackets++;
            tape.step();
            return true;
        }

        private int lawWord() {
            int word = tape.token - BORN_TOKEN;
            if (word < 0 || word >= LAW_WORDS) {
                blame();
                return 0;
            }
            tape.step();
            return word;
        }

        private int orderWord() {
            int token = tape.token;
            if (token < NOW_TOKEN || token > KIN_TOKEN) {
                blame();
                return NOW_WORD;
            }
            tape.step();
            if (token < PURSE_TOKEN) {
                return NOW_WORD + token - NOW_TOKEN;
            }
            int person = neededNumber(0, MOST_PEOPLE - 1);
            if (token == PURSE_TOKEN) {
                return PURSE_WORD + person;
            }
            return KIN_WORD + person * MOST_PEOPLE + neededNumber(0, MOST_PEOPLE - 1);
        }
    }

    /** Reckons SUMS and TESTS from their code. */
    private static final class Reckoner {
        private static final long TOO_LARGE = MOST_SUM + 1;

        private final long[] stack = new long[MOST_PARTS + 1];
        int result;

        /** The result, a TEST's as 1 or 0, is told by result; false: it is BROKEN. */
        boolean reckon(Script script, int at, int[] words) {
            if (at < 0 || at >= script.from.length) {
                return false;
            }
            int top = 0;
            int till = Math.min(script.till[at], script.length);
            for (int i = Math.max(0, script.from[at]); i < till; i++) {
                int what = script.operation[i];
                int with = script.operand[i];
                if (what == PUSH_NUMBER || what == PUSH_WORD) {
                    if (top >= stack.length || (what == PUSH_WORD && (with < 0 || with >= words.length))) {
                        return false;
                    }
                    stack[top] = what == PUSH_NUMBER ? with : words[with];
                    top++;
                } else if (top < 1) {
                    return false;
                } else if (what == NOT) {
                    stack[top - 1] = 1 - stack[top - 1];
                } else if (what == AND || what == OR) {
                    boolean settled = (stack[top - 1] == 1) == (what == OR);
                    if (settled) {
                        i = Math.max(i, with - 1);
                    } else {
                        top--;
                    }
                } else if (top < 2) {
                    return false;
                } else {
                    long value = combined(what, stack[top - 2], stack[top - 1]);
                    if (value > MOST_SUM || value < -MOST_SUM) {
                        return false;
                    }
                    top--;
                    stack[top - 1] = value;
                }
            }
            result = (int) stack[0];
            return top == 1;
        }

        private static long combined(int what, long left, long right) {
            switch (what) {
                case ADD: return left + right;
                case SUBTRACT: return left - right;
                case MULTIPLY: return left * right;
                case DIVIDE: return right == 0 ? TOO_LARGE : left / right;
                case REST: return right == 0 ? TOO_LARGE : left % right;
                case BELOW: return left < right ? 1 : 0;
                case ABOVE: return left > right ? 1 : 0;
                default: return left == right ? 1 : 0;
            }
        }
    }

    /** Asks the LAW in FORCE. Nothing that it tells hangs on what was bought, so paper may ask it, too. */
    private static final class Court {
        private final Country country;
        private final Reckoner reckoner;
        private final int[] words = new int[LAW_WORDS];

        Court(Country country, Reckoner reckoner) {
            this.country = country;
            this.reckoner = reckoner;
        }

        private void setWords(int person, int child) {
            People people = country.people;
            words[0] = people.born[person];
            words[1] = people.lived[person];
            words[2] = people.noble[person];
            words[3] = people.debt[person];
            words[4] = people.house[person];
            words[5] = people.sex[person];
            words[6] = child == NONE ? -1 : people.born[child] - people.born[person];
            words[7] = child == NONE ? -1 : people.house[child];
            words[8] = country.terms[YEAR];
            words[9] = country.terms[MOOD];
        }

        /** Whether a CLAUSE of the kind HOLDS; what the last such one tells is the reckoner's result. */
        private boolean anyHolds(int kind) {
            Script law = country.lawInForce();
            if (law == null) {
                return false;
            }
            for (int clause = law.clauses - 1; clause >= 0; clause--) {
                int at = clause * SEGMENTS;
                boolean holds = law.kind[clause] == kind
                        && (law.lacks(clause, TEST_SEGMENT)
                            || (reckoner.reckon(law, at + TEST_SEGMENT, words) && reckoner.result == 1))
                        && (law.lacks(clause, 0) || reckoner.reckon(law, at, words));
                if (holds) {
                    return true;
                }
            }
            return false;
        }

        int price(int parent, int child) {
            setWords(parent, child);
            return anyHolds(PRICE) ? within(reckoner.result, 0, MOST_PRICE) : priceWithoutLaw(parent);
        }

        /** NOBLE costs more here alone: a LAW that tells a PRICE tells the whole of it. */
        private int priceWithoutLaw(int parent) {
            return country.people.noble[parent] == 1 ? NOBLE_PRICE : PLAIN_PRICE;
        }

        boolean isBarred(int parent, int child) {
            setWords(parent, child);
            return anyHolds(BARS);
        }

        int rank(int person) {
            setWords(person, NONE);
            return anyHolds(RANKS) ? within(reckoner.result, 0, MOST_RANK) : country.people.noble[person];
        }

        /** Who RANKS above 0, as bits. */
        int ranked() {
            int bits = 0;
            for (int person = 0; person < country.people.size; person++) {
                if (rank(person) > 0) {
                    bits |= 1 << person;
                }
            }
            return bits;
        }

        /** The PRICE of a PURCHASE by what stands among these people; NONE, if it can't be. */
        int offer(People people, int parent, int child, int payer) {
            if (!people.isSelfOrInLine(child, payer)
                    || !people.couldBeBought(parent, child, country.terms[GAP])
                    || isBarred(parent, child)) {
                return NONE;
            }
            int price = price(parent, child);
            return price <= people.purse[payer] ? price : NONE;
        }
    }

    /** How far two are KIN, and what hangs on that. */
    private static final class Kinship {
        private final int[] stepsOne = new int[MOST_PEOPLE];
        private final int[] stepsOther = new int[MOST_PEOPLE];
        private final int[] queue = new int[MOST_PEOPLE];
        private int common;

        private void climb(People people, int start, int[] steps) {
            Arrays.fill(steps, NONE);
            steps[start] = 0;
            queue[0] = start;
            int filled = 1;
            for (int i = 0; i < filled && i < MOST_PEOPLE; i++) {
                int person = queue[i];
                for (int side = 0; side < 2; side++) {
                    int parent = side == 0 ? people.father[person] : people.mother[person];
                    if (parent != NONE && steps[parent] == NONE && filled < MOST_PEOPLE) {
                        steps[parent] = steps[person] + 1;
                        queue[filled] = parent;
                        filled++;
                    }
                }
            }
        }

        int apart(People people, int one, int other) {
            common = NONE;
            if ((people.withLine(one) & people.withLine(other)) == 0) {
                return NONE;
            }
            climb(people, one, stepsOne);
            climb(people, other, stepsOther);
            int least = NONE;
            for (int person = 0; person < people.size; person++) {
                int steps = stepsOne[person] + stepsOther[person];
                boolean ofBoth = stepsOne[person] != NONE && stepsOther[person] != NONE;
                if (ofBoth && (least == NONE || steps < least)) {
                    least = steps;
                    common = person;
                }
            }
            return least;
        }

        int nearestCommon(People people, int one, int other) {
            apart(people, one, other);
            return common;
        }

        int stepsUp(People people, int one, int other) {
            climb(people, one, stepsOne);
            return stepsOne[other];
        }

        boolean mayMarry(People people, int one, int other, int[] terms) {
            if (people.sex[one] == people.sex[other] || !people.livesIn(one, terms[YEAR])
                    || !people.livesIn(other, terms[YEAR])) {
                return false;
            }
            int far = apart(people, one, other);
            return far == NONE || far > terms[BAN];
        }

        int heir(People people, int person, int year) {
            int best = NONE;
            int bestFar = NONE;
            for (int other = 0; other < people.size; other++) {
                int far = other == person || !people.livesIn(other, year) ? NONE : apart(people, person, other);
                boolean nearer = far != NONE && (best == NONE || far < bestFar
                        || (far == bestFar && people.born[other] < people.born[best]));
                if (nearer) {
                    best = other;
                    bestFar = far;
                }
            }
            return best;
        }
    }

    /** The purchases that can be undone, the latest last. */
    private static final class Ledger {
        private final int[] parents = new int[MOST_KEPT];
        private final int[] children = new int[MOST_KEPT];
        private final int[] payers = new int[MOST_KEPT];
        private final int[] prices = new int[MOST_KEPT];
        int size;

        void clear() {
            size = 0;
        }

        /** Each has another SOLD parent, so that there is always room. */
        void write(int parent, int child, int payer, int price) {
            if (size >= MOST_KEPT) {
                return;
            }
            parents[size] = parent;
            children[size] = child;
            payers[size] = payer;
            prices[size] = price;
            size++;
        }

        /** The parent; NONE, if nothing can be undone. */
        int undoLatest(People people) {
            if (size < 1 || size > MOST_KEPT) {
                return NONE;
            }
            size--;
            int parent = parents[size];
            people.unsell(parent, children[size]);
            people.reckonLines();
            people.purse[payers[size]] += prices[size];
            people.chests[people.house[parent]] -= prices[size];
            return parent;
        }
    }

    /** Runs ORDERS, wholly or not at all. */
    private static final class Clerk {
        private final Country country;
        private final Court court;
        private final Kinship kinship;
        private final Reckoner reckoner;
        private final Ledger ledger;
        private final Country ahead = new Country();
        private final int[] words = new int[ORDER_WORDS];
        /** The parent, the child, who pays. */
        private final int[] three = new int[3];
        int done;
        private int last;

        Clerk(Country country, Court court, Kinship kinship, Reckoner reckoner, Ledger ledger) {
            this.country = country;
            this.court = court;
            this.kinship = kinship;
            this.reckoner = reckoner;
            this.ledger = ledger;
        }

        /** The CLAUSE that could not be; NONE, if all is done. */
        int obey(Script script) {
            ahead.copyFrom(country);
            int undoable = ledger.size;
            done = 0;
            last = NONE;
            for (int clause = 0; clause < script.clauses; clause++) {
                for (int time = 0; time < script.times[clause]; time++) {
                    if (!obeyed(script, clause)) {
                        country.copyFrom(ahead);
                        ledger.size = undoable;
                        return clause;
                    }
                }
            }
            return NONE;
        }

        private boolean obeyed(Script script, int clause) {
            int at = clause * SEGMENTS;
            boolean asked = script.lacks(clause, TEST_SEGMENT)
                    || (reckoned(script, at + TEST_SEGMENT) && reckoner.result == 1);
            if (!asked) {
                return true;
            }
            if (script.kind[clause] == SET_YEAR) {
                if (!reckoned(script, at) || !country.termCanBe(YEAR, reckoner.result)) {
                    return false;
                }
                country.terms[YEAR] = reckoner.result;
            } else {
                if (!areThreePeople(script, at)) {
                    return false;
                }
                int price = court.offer(country.people, three[0], three[1], three[2]);
                if (price == NONE) {
                    return false;
                }
                country.people.trade(three[0], three[1], three[2], price);
                ledger.write(three[0], three[1], three[2], price);
                last = price;
            }
            done++;
            return true;
        }

        private boolean areThreePeople(Script script, int at) {
            for (int i = 0; i < three.length; i++) {
                if (!reckoned(script, at + i) || !country.people.has(reckoner.result)) {
                    return false;
                }
                three[i] = reckoner.result;
            }
            return true;
        }

        /** Only the words that stand there are looked up: all of them would be hundreds. */
        private boolean reckoned(Script script, int at) {
            if (at < 0 || at >= script.from.length) {
                return false;
            }
            int till = Math.min(script.till[at], script.length);
            for (int i = Math.max(0, script.from[at]); i < till; i++) {
                int word = script.operand[i];
                if (script.operation[i] == PUSH_WORD && word >= 0 && word < ORDER_WORDS) {
                    words[word] = valueOf(word);
                }
            }
            return reckoner.reckon(script, at, words);
        }

        private int valueOf(int word) {
            People people = country.people;
            if (word >= KIN_WORD) {
                int one = (word - KIN_WORD) / MOST_PEOPLE;
                int other = (word - KIN_WORD) % MOST_PEOPLE;
                return people.has(one) && people.has(other) ? kinship.apart(people, one, other) : -1;
            }
            if (word >= PURSE_WORD) {
                return people.has(word - PURSE_WORD) ? people.purse[word - PURSE_WORD] : -1;
            }
            switch (word) {
                case NOW_WORD: return country.terms[YEAR];
                case PEOPLE_WORD: return people.size;
                case DONE_WORD: return done;
                default: return last;
            }
        }
    }

    /** What is found on paper by trying purchases, and FAIRS. */
    private static final class Search {
        private static final int MOST_PAIRS = MOST_PEOPLE * MOST_PEOPLE;
        private static final int DRAW_FACTOR = 1103;
        private static final int DRAW_ADDED = 12345;
        private static final int DRAW_MODULUS = 1000003;

        private final Country country;
        private final Court court;
        private final Kinship kinship;
        private final People paper = new People();
        /** Pairs that could be bought now, as 16 times the child and the parent, the lowest first. */
        private final int[] pairs = new int[MOST_PAIRS];
        private final int[] prices = new int[MOST_PAIRS];
        private int many;
        private final int[] linesBeforeFirst = new int[MOST_PEOPLE];
        private final int[] linesBeforeSecond = new int[MOST_PEOPLE];
        private int ranked;
        int leastPrice;
        int leastCount;
        int firstCode;
        int secondCode;
        int rows;
        final int[] secretCodes = new int[MOST_PAIRS];
        /** Stays as the latest FAIR left it; nobody is there ahead of any. */
        final People fairPaper = new People();
        private int seed;

        Search(Country country, Court court, Kinship kinship) {
            this.country = country;
            this.court = court;
            this.kinship = kinship;
        }

        /** No purchase makes another pair one that could be bought, so these serve behind one, too. */
        private void gatherPairs() {
            paper.copyFrom(country.people);
            many = 0;
            for (int code = 0; code < paper.size * MOST_PEOPLE; code++) {
                if (code % MOST_PEOPLE < paper.size && couldBeBought(code)) {
                    pairs[many] = code;
                    many++;
                }
            }
        }

        private boolean couldBeBought(int code) {
            return paper.couldBeBought(code % MOST_PEOPLE, code / MOST_PEOPLE, country.terms[GAP]);
        }

        private void tryOut(int code, int[] linesBefore) {
            System.arraycopy(paper.line, 0, linesBefore, 0, MOST_PEOPLE);
            paper.sell(code % MOST_PEOPLE, code / MOST_PEOPLE);
        }

        private void takeBack(int code, int[] linesBefore) {
            paper.unsell(code % MOST_PEOPLE, code / MOST_PEOPLE);
            System.arraycopy(linesBefore, 0, paper.line, 0, MOST_PEOPLE);
        }

        private void keepAffordable(int purse) {
            int kept = 0;
            for (int i = 0; i < many; i++) {
                int parent = pairs[i] % MOST_PEOPLE;
                int child = pairs[i] / MOST_PEOPLE;
                int price = court.price(parent, child);
                if (price <= purse && !court.isBarred(parent, child)) {
                    pairs[kept] = pairs[i];
                    prices[kept] = price;
                    kept++;
                }
            }
            many = kept;
        }

        boolean findCheap(int payer, int other) {
            gatherPairs();
            ranked = court.ranked();
            leastPrice = NONE;
            note(0, 0, NONE, NONE, isThere(payer, other));
            if (leastPrice != NONE) {
                return true;
            }
            keepAffordable(paper.purse[payer]);
            for (int i = 0; i < many; i++) {
                int code = pairs[i];
                if (paper.isSelfOrInLine(code / MOST_PEOPLE, payer) && isLess(prices[i], 1)) {
                    tryOut(code, linesBeforeFirst);
                    note(prices[i], 1, code, NONE, isThere(payer, other));
                    findCheapSecond(payer, other, i);
                    takeBack(code, linesBeforeFirst);
                }
            }
            return leastPrice != NONE;
        }

        private void findCheapSecond(int payer, int other, int first) {
            for (int j = 0; j < many; j++) {
                int code = pairs[j];
                int sum = prices[first] + prices[j];
                if (sum <= paper.purse[payer] && isLess(sum, 2)
                        && paper.isSelfOrInLine(code / MOST_PEOPLE, payer) && couldBeBought(code)) {
                    tryOut(code, linesBeforeSecond);
                    note(sum, 2, pairs[first], code, isThere(payer, other));
                    takeBack(code, linesBeforeSecond);
                }
            }
        }

        private boolean isThere(int payer, int other) {
            return paper.isGrand(payer, ranked)
                    && (other == NONE || kinship.mayMarry(paper, payer, other, country.terms));
        }

        private boolean isLess(int price, int purchases) {
            return leastPrice == NONE || price < leastPrice
                    || (price == leastPrice && purchases < leastCount);
        }

        /** Rows come in their order, so that of like ones the first stays. */
        private void note(int price, int purchases, int first, int second, boolean there) {
            if (there && isLess(price, purchases)) {
                leastPrice = price;
                leastCount = purchases;
                firstCode = first;
                secondCode = second;
            }
        }

        /** How many PURCHASES; in how many rows is told by rows. NONE: not by 2. */
        int findJoin(int one, int other) {
            gatherPairs();
            rows = 1;
            if ((paper.withLine(one) & paper.withLine(other)) != 0) {
                return 0;
            }
            rows = joiningPairs(one, other);
            if (rows > 0) {
                return 1;
            }
            for (int i = 0; i < many; i++) {
                tryOut(pairs[i], linesBeforeFirst);
                rows += joiningPairs(one, other);
                takeBack(pairs[i], linesBeforeFirst);
            }
            return rows > 0 ? 2 : NONE;
        }

        /** How many pairs would make KIN of two who are not yet. */
        private int joiningPairs(int one, int other) {
            int ofOne = paper.withLine(one);
            int ofOther = paper.withLine(other);
            int joining = 0;
            for (int i = 0; i < many; i++) {
                int child = pairs[i] / MOST_PEOPLE;
                int added = paper.withLine(pairs[i] % MOST_PEOPLE);
                boolean joins = ((ofOne >> child & 1) == 1 && (added & ofOther) != 0)
                        || ((ofOther >> child & 1) == 1 && (added & ofOne) != 0);
                if (joins && couldBeBought(pairs[i])) {
                    joining++;
                }
            }
            return joining;
        }

        /** The CLAIMS that are left out, as bits. */
        int findLies() {
            paper.copyFrom(country.people);
            int all = (1 << country.claims) - 1;
            int best = all;
            for (int left = 0; left < all; left++) {
                if (Integer.bitCount(left) < Integer.bitCount(best) && canAllBe(all & ~left)) {
                    best = left;
                }
            }
            return best;
        }

        /** In any order, if in one: no purchase hangs on another one but by what both would fill. */
        private boolean canAllBe(int claims) {
            paper.copyTiesFrom(country.people);
            for (int i = 0; i < country.claims; i++) {
                if ((claims >> i & 1) == 1) {
                    int parent = country.claimParent[i];
                    int child = country.claimChild[i];
                    if (!paper.couldBeBought(parent, child, country.terms[GAP])) {
                        return false;
                    }
                    paper.sell(parent, child);
                }
            }
            return true;
        }

        int findSecrets() {
            gatherPairs();
            int found = 0;
            for (int i = 0; i < many; i++) {
                tryOut(pairs[i], linesBeforeFirst);
                if (areAllSightsSo()) {
                    secretCodes[found] = pairs[i];
                    found++;
                }
                takeBack(pairs[i], linesBeforeFirst);
            }
            return found;
        }

        private boolean areAllSightsSo() {
            for (int i = 0; i < country.sights; i++) {
                if (kinship.apart(paper, country.sightOne[i], country.sightOther[i]) != country.sightFar[i]) {
                    return false;
                }
            }
            return true;
        }

        int holdFair(int newSeed, int tries) {
            fairPaper.copyFrom(country.people);
            seed = newSeed;
            int bought = 0;
            for (int i = 0; i < tries; i++) {
                int payer = drawPerson();
                int child = drawPerson();
                int parent = drawPerson();
                int price = court.offer(fairPaper, parent, child, payer);
                if (price != NONE) {
                    fairPaper.trade(parent, child, payer, price);
                    bought++;
                }
            }
            return bought;
        }

        private int drawPerson() {
            seed = (seed * DRAW_FACTOR + DRAW_ADDED) % DRAW_MODULUS;
            return seed % Math.max(1, fairPaper.size);
        }
    }
}
