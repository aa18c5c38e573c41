import java.util.ArrayList;
import java.util.Arrays;
import java.util.Comparator;
import java.util.HashMap;
import java.util.List;
import java.util.Map;
import java.util.TreeSet;
import java.util.function.Function;

/**
 * The document written a second time, slowly and without any regard to room, so that the two can be held against
 * one another: states are copied whole, lines are climbed anew for each question, texts become trees of functions,
 * and what is searched for is found by trying everything.
 */
final class PlainModel {
    static final class Person {
        int sex, born, lived, noble, debt, family, purse;
        int father = -1, mother = -1;
        boolean sold;

        Person copy() {
            Person p = new Person();
            p.sex = sex; p.born = born; p.lived = lived; p.noble = noble; p.debt = debt; p.family = family;
            p.purse = purse; p.father = father; p.mother = mother; p.sold = sold;
            return p;
        }
    }

    static final class State {
        List<Person> people = new ArrayList<>();
        int[] chests = new int[6];
        List<int[]> sights = new ArrayList<>();
        List<int[]> claims = new ArrayList<>();
        int[] terms = {500, 4, 16, 0};
        List<List<Clause>> laws = new ArrayList<>();
        int force = -1;

        State copy() {
            State s = new State();
            for (Person p : people) s.people.add(p.copy());
            s.chests = chests.clone();
            s.sights.addAll(sights);
            s.claims.addAll(claims);
            s.terms = terms.clone();
            s.laws.addAll(laws);
            s.force = force;
            return s;
        }

        boolean has(int p) { return p >= 0 && p < people.size(); }
        Person p(int i) { return people.get(i); }

        TreeSet<Integer> line(int i) {
            TreeSet<Integer> set = new TreeSet<>();
            for (int q : new int[] {p(i).father, p(i).mother}) {
                if (q >= 0) { set.add(q); set.addAll(line(q)); }
            }
            return set;
        }

        /** -1: not oneself and not in the line. */
        int up(int from, int to) {
            if (from == to) return 0;
            int best = -1;
            for (int q : new int[] {p(from).father, p(from).mother}) {
                if (q < 0) continue;
                int u = up(q, to);
                if (u >= 0 && (best < 0 || u + 1 < best)) best = u + 1;
            }
            return best;
        }

        int[] kin(int a, int b) {
            int[] best = {-1, -1};
            for (int c = 0; c < people.size(); c++) {
                int x = up(a, c), y = up(b, c);
                if (x >= 0 && y >= 0 && (best[0] < 0 || x + y < best[0])) best = new int[] {x + y, c};
            }
            return best;
        }

        boolean lives(int i, int year) {
            for (int y = p(i).born; y <= p(i).born + p(i).lived - 1; y++) if (y == year) return true;
            return false;
        }

        boolean fits(int parent, int child) {
            Person a = p(parent), c = p(child);
            if (c.born < a.born + terms[2]) return false;
            return lives(parent, c.born) || a.sex == 0 && lives(parent, c.born - 1);
        }

        boolean place(int parent, int child) {
            if (parent == child) return false;
            if ((p(parent).sex == 0 ? p(child).father : p(child).mother) >= 0) return false;
            return !line(parent).contains(child);
        }

        boolean aside(int parent, int child) {
            return place(parent, child) && !p(parent).sold && fits(parent, child);
        }

        void tie(int parent, int child) {
            if (p(parent).sex == 0) p(child).father = parent; else p(child).mother = parent;
        }

        void sell(int parent, int child) { tie(parent, child); p(parent).sold = true; }

        Map<String, Integer> words(int parent, int child) {
            Person a = p(parent);
            Map<String, Integer> w = new HashMap<>();
            w.put("born", a.born); w.put("lived", a.lived); w.put("noble", a.noble); w.put("debt", a.debt);
            w.put("family", a.family); w.put("side", a.sex);
            w.put("age", child < 0 ? -1 : p(child).born - a.born);
            w.put("own", child < 0 ? -1 : p(child).family);
            w.put("year", terms[0]); w.put("mood", terms[3]);
            return w;
        }

        /** null: none holds. */
        Long told(String kind, int parent, int child) {
            Long last = null;
            if (force < 0) return null;
            Map<String, Integer> w = words(parent, child);
            for (Clause c : laws.get(force)) {
                if (!c.kind.equals(kind)) continue;
                try {
                    if (c.test != null && c.test.apply(w::get) == 0) continue;
                    last = c.sums.isEmpty() ? Long.valueOf(0) : c.sums.get(0).apply(w::get);
                } catch (Broken b) {
                    continue;
                }
            }
            return last;
        }

        int price(int parent, int child) {
            Long t = told("price", parent, child);
            if (t == null) return p(parent).noble == 1 ? 200 : 100;
            return (int) (t < 0 ? 0 : t > 9999 ? 9999 : t);
        }

        int rank(int i) {
            Long t = told("ranks", i, -1);
            return (int) (t == null ? p(i).noble : t < 0 ? 0 : t > 99 ? 99 : t);
        }

        boolean barred(int parent, int child) { return told("bars", parent, child) != null; }

        /** The price, -2, -3. */
        int buy(int parent, int child, int payer) {
            if (!has(parent) || !has(child) || !has(payer)) return -2;
            if (payer != child && !line(payer).contains(child)) return -3;
            if (!aside(parent, child) || barred(parent, child)) return -3;
            int price = price(parent, child);
            if (p(payer).purse < price) return -3;
            p(payer).purse -= price;
            chests[p(parent).family] += price;
            sell(parent, child);
            return price;
        }

        boolean ranksSomewhere(int i) {
            if (i < 0) return false;
            if (rank(i) > 0) return true;
            for (int q : line(i)) if (rank(q) > 0) return true;
            return false;
        }

        boolean grand(int i) { return ranksSomewhere(p(i).father) && ranksSomewhere(p(i).mother); }

        boolean marry(int a, int b) {
            if (p(a).sex == p(b).sex || !lives(a, terms[0]) || !lives(b, terms[0])) return false;
            int far = kin(a, b)[0];
            return far < 0 || far > terms[1];
        }
    }

    static final class Broken extends RuntimeException {
        private static final long serialVersionUID = 1L;
        Broken() { super(null, null, false, false); }
    }

    static final class Faulty extends RuntimeException {
        private static final long serialVersionUID = 1L;
        final int place;
        Faulty(int place) { super(null, null, false, false); this.place = place; }
    }

    interface Tree { long apply(Function<String, Integer> words); }

    static final class Clause {
        String kind;
        List<Tree> sums = new ArrayList<>();
        Tree test;
        int times = 1;
    }

    /** Recursive descent over a list of tokens; the first that can't go on there is thrown. */
    static final class Parser {
        final List<String> tokens = new ArrayList<>();
        final List<Integer> places = new ArrayList<>();
        final boolean orders;
        int at = 0, parts = 0;

        Parser(byte[] tape, boolean orders) {
            this.orders = orders;
            int i = 0;
            while (i < tape.length) {
                int start = i;
                if (tape[i] == 32) { i++; continue; }
                if (letter(tape[i])) while (i < tape.length && letter(tape[i])) i++;
                else if (digit(tape[i])) while (i < tape.length && digit(tape[i])) i++;
                else i++;
                StringBuilder sb = new StringBuilder();
                for (int k = start; k < i; k++) sb.append((char) (tape[k] & 255));
                tokens.add(sb.toString());
                places.add(start);
            }
            tokens.add("");
            places.add(tape.length);
        }

        static boolean letter(byte b) { return b >= 97 && b <= 122; }
        static boolean digit(byte b) { return b >= 48 && b <= 57; }
        String peek() { return tokens.get(at); }
        Faulty fault() { return new Faulty(places.get(at)); }
        boolean take(String t) { if (peek().equals(t)) { at++; return true; } return false; }
        void need(String t) { if (!take(t)) throw fault(); }

        List<Clause> text() {
            List<Clause> all = new ArrayList<>();
            do {
                if (all.size() == 12) throw fault();
                all.add(clause());
            } while (take(";"));
            if (!peek().isEmpty()) throw fault();
            return all;
        }

        Clause clause() {
            Clause c = new Clause();
            c.kind = peek();
            List<String> kinds = orders ? Arrays.asList("buy", "year") : Arrays.asList("price", "ranks", "bars");
            if (!kinds.contains(c.kind)) throw fault();
            at++;
            if (!c.kind.equals("bars")) c.sums.add(sum(0));
            if (c.kind.equals("buy")) {
                need("for");
                c.sums.add(sum(0));
                need("by");
                c.sums.add(sum(0));
            }
            if (orders && take("times")) c.times = number(1, 20);
            if (take("if")) c.test = test(0);
            return c;
        }

        int number(int least, int most) {
            String t = peek();
            if (t.isEmpty() || !digit((byte) t.charAt(0))) throw fault();
            java.math.BigInteger v = new java.math.BigInteger(t);
            if (v.compareTo(java.math.BigInteger.valueOf(least)) < 0
                    || v.compareTo(java.math.BigInteger.valueOf(most)) > 0) throw fault();
            at++;
            return v.intValue();
        }

        Tree test(int depth) {
            Tree left = both(depth);
            while (take("or")) {
                Tree a = left, b = both(depth);
                left = w -> a.apply(w) != 0 ? 1 : b.apply(w);
            }
            return left;
        }

        Tree both(int depth) {
            Tree left = plain(depth);
            while (take("and")) {
                Tree a = left, b = plain(depth);
                left = w -> a.apply(w) == 0 ? 0 : b.apply(w);
            }
            return left;
        }

        Tree plain(int depth) {
            if (take("not")) {
                Tree a = plain(depth);
                return w -> a.apply(w) == 0 ? 1 : 0;
            }
            if (peek().equals("(")) {
                if (depth == 8) throw fault();
                at++;
                Tree a = test(depth + 1);
                need(")");
                return a;
            }
            Tree a = sum(depth);
            String how = peek();
            if (!Arrays.asList("<", ">", "=").contains(how)) throw fault();
            at++;
            Tree b = sum(depth);
            return w -> {
                long x = a.apply(w), y = b.apply(w);
                return (how.equals("<") ? x < y : how.equals(">") ? x > y : x == y) ? 1 : 0;
            };
        }

        static long checked(long v) {
            if (v > 1_000_000_000L || v < -1_000_000_000L) throw new Broken();
            return v;
        }

        Tree sum(int depth) {
            Tree left = term(depth);
            while (peek().equals("+") || peek().equals("-")) {
                boolean plus = tokens.get(at++).equals("+");
                Tree a = left, b = term(depth);
                left = w -> { long x = a.apply(w), y = b.apply(w); return checked(plus ? x + y : x - y); };
            }
            return left;
        }

        Tree term(int depth) {
            Tree left = part(depth);
            while (peek().equals("*") || peek().equals("/") || peek().equals("%")) {
                String how = tokens.get(at++);
                Tree a = left, b = part(depth);
                left = w -> {
                    long x = a.apply(w), y = b.apply(w);
                    if (how.equals("*")) return checked(x * y);
                    if (y == 0) throw new Broken();
                    return how.equals("/") ? x / y : x - x / y * y;
                };
            }
            return left;
        }

        Tree part(int depth) {
            if (peek().equals("[")) {
                if (depth == 8) throw fault();
                at++;
                Tree a = sum(depth + 1);
                need("]");
                return a;
            }
            String t = peek();
            if (!t.isEmpty() && digit((byte) t.charAt(0))) {
                if (++parts > 50) throw fault();
                long v = number(0, 1000);
                return w -> v;
            }
            List<String> words = orders ? Arrays.asList("now", "people", "done", "last", "purse", "kin")
                    : Arrays.asList("born", "lived", "noble", "debt", "family", "side", "age", "own", "year", "mood");
            if (!words.contains(t) || ++parts > 50) throw fault();
            at++;
            String name = t;
            if (t.equals("purse")) name = "purse " + number(0, 15);
            if (t.equals("kin")) {
                int a = number(0, 15);
                name = "kin " + a + " " + number(0, 15);
            }
            String word = name;
            return w -> w.apply(word);
        }
    }

    State now = new State();
    private final State[] images = new State[2];
    private final List<State> ahead = new ArrayList<>();
    private final List<Integer> boughtParents = new ArrayList<>();
    private byte[] tape = {};
    private int fault = -1, stopped = -1, mould = 0, status = 0;
    private final int[] refused = new int[7];
    private State fairState = null;

    private int no(int why) { status = why; refused[-why]++; return why; }
    private int yes(int answer) { status = 0; return answer; }
    private void nothingToUndo() { ahead.clear(); boughtParents.clear(); }

    private static boolean personOk(int sex, int born, int lived, int house) {
        return (sex == 0 || sex == 1) && born >= 0 && born < 1000 && lived >= 0 && lived <= 120
                && house >= 0 && house <= 5;
    }

    private void settle(int sex, int born, int lived, int house) {
        Person p = new Person();
        p.sex = sex; p.born = born; p.lived = lived; p.family = house;
        now.people.add(p);
    }

    int person(int sex, int born, int lived, int house) {
        if (!personOk(sex, born, lived, house)) return no(-1);
        if (now.people.size() == 16) return no(-5);
        settle(sex, born, lived, house);
        nothingToUndo();
        return yes(now.people.size() - 1);
    }

    int put(int person, int what, int value) {
        if (what < 0 || what > 2 || value < 0 || value > new int[] {1, 99, 9999}[what]) return no(-1);
        if (!now.has(person)) return no(-2);
        int was = of(person, what);
        Person p = now.p(person);
        if (what == 0) p.noble = value;
        if (what == 1) p.debt = value;
        if (what == 2) p.purse = value;
        nothingToUndo();
        return yes(was);
    }

    int of(int person, int what) {
        if (!now.has(person) || what < 0 || what > 10) return -1;
        Person p = now.p(person);
        return new int[] {p.noble, p.debt, p.purse, p.sex, p.born, p.lived, p.family, p.father, p.mother,
            p.sold ? 1 : 0, now.rank(person)}[what];
    }

    int parent(int parent, int child) {
        if (!now.has(parent) || !now.has(child)) return no(-2);
        if (!now.place(parent, child)) return no(-3);
        now.tie(parent, child);
        nothingToUndo();
        return yes(0);
    }

    private static boolean termOk(int what, int value) {
        if (what < 0 || what > 3) return false;
        int[][] ranges = {{0, 999}, {0, 9}, {12, 40}, {0, 9}};
        return value >= ranges[what][0] && value <= ranges[what][1];
    }

    int terms(int what, int value) {
        if (!termOk(what, value)) return no(-1);
        int was = now.terms[what];
        now.terms[what] = value;
        return yes(was);
    }

    int chest(int house) { return house < 0 || house > 5 ? -1 : now.chests[house]; }

    int feed(int a, int b, int c, int d, int e) {
        if (tape.length + 20 > 400) return -1;
        java.nio.ByteBuffer buffer = java.nio.ByteBuffer.allocate(tape.length + 20);
        buffer.put(tape).putInt(a).putInt(b).putInt(c).putInt(d).putInt(e);
        tape = buffer.array();
        return tape.length;
    }

    int end(int n) {
        if (n < 0 || n > tape.length) return -1;
        tape = Arrays.copyOf(tape, n);
        return n;
    }

    int row() {
        if (tape.length == 0) return no(-6);
        int came = 0;
        mould = 0;
        for (int i = 0; i < tape.length; i += 5) {
            if (i + 5 > tape.length) { mould++; continue; }
            int[] v = new int[5];
            for (int k = 0; k < 5; k++) v[k] = tape[i + k] & 255;
            if (!personOk(v[0], v[1] * 256 + v[2], v[3], v[4]) || now.people.size() == 16) { mould++; continue; }
            settle(v[0], v[1] * 256 + v[2], v[3], v[4]);
            came++;
        }
        tape = new byte[0];
        nothingToUndo();
        return yes(came);
    }

    int mould() { return mould; }

    int law() {
        byte[] text = tape;
        tape = new byte[0];
        if (now.laws.size() == 6) return no(-5);
        try {
            List<Clause> law = new Parser(text, false).text();
            fault = -1;
            now.laws.add(law);
            return yes(now.laws.size() - 1);
        } catch (Faulty f) {
            fault = f.place;
            return no(-6);
        }
    }

    int orders() {
        byte[] text = tape;
        tape = new byte[0];
        stopped = -1;
        List<Clause> clauses;
        try {
            clauses = new Parser(text, true).text();
            fault = -1;
        } catch (Faulty f) {
            fault = f.place;
            return no(-6);
        }
        State before = now.copy();
        List<State> aheadBefore = new ArrayList<>(ahead);
        List<Integer> parentsBefore = new ArrayList<>(boughtParents);
        int[] done = {0};
        int[] last = {-1};
        Function<String, Integer> words = w -> {
            String[] s = w.split(" ");
            switch (s[0]) {
                case "now": return now.terms[0];
                case "people": return now.people.size();
                case "done": return done[0];
                case "last": return last[0];
                case "purse": return of(Integer.parseInt(s[1]), 2);
                default: return kin(Integer.parseInt(s[1]), Integer.parseInt(s[2]), 0);
            }
        };
        for (int c = 0; c < clauses.size(); c++) {
            Clause clause = clauses.get(c);
            for (int t = 0; t < clause.times; t++) {
                try {
                    if (clause.test != null && clause.test.apply(words) == 0) continue;
                } catch (Broken b) {
                    continue;
                }
                boolean could;
                try {
                    int[] v = new int[clause.sums.size()];
                    for (int k = 0; k < v.length; k++) v[k] = (int) clause.sums.get(k).apply(words);
                    if (clause.kind.equals("year")) {
                        could = termOk(0, v[0]);
                        if (could) now.terms[0] = v[0];
                    } else {
                        int price = silentBuy(v[0], v[1], v[2]);
                        could = price >= 0;
                        if (could) last[0] = price;
                    }
                } catch (Broken b) {
                    could = false;
                }
                if (!could) {
                    now = before;
                    ahead.clear();
                    ahead.addAll(aheadBefore);
                    boughtParents.clear();
                    boughtParents.addAll(parentsBefore);
                    stopped = c;
                    return no(-3);
                }
                done[0]++;
            }
        }
        return yes(done[0]);
    }

    int fault() { return fault; }
    int stopped() { return stopped; }

    int force(int law) {
        if (law != -1 && (law < 0 || law >= now.laws.size())) return no(-2);
        int was = now.force;
        now.force = law;
        return yes(was);
    }

    int asks(int parent, int child, int what) {
        if (!now.has(parent) || !now.has(child) || parent == child) return -1;
        if (what == 0) return now.price(parent, child);
        if (what == 1) return now.barred(parent, child) ? 1 : 0;
        if (what == 2) return now.fits(parent, child) ? 1 : 0;
        return -1;
    }

    int kin(int one, int other, int what) {
        if (!now.has(one) || !now.has(other) || what < 0 || what > 2) return -1;
        return what == 2 ? now.up(one, other) : now.kin(one, other)[what];
    }

    private static int bits(Iterable<Integer> set) {
        int b = 0;
        for (int i : set) b += 1 << i;
        return b;
    }

    int line(int person, int what) {
        if (!now.has(person)) return -1;
        switch (what) {
            case 0: return bits(now.line(person));
            case 1: {
                List<Integer> below = new ArrayList<>();
                for (int i = 0; i < now.people.size(); i++) if (now.line(i).contains(person)) below.add(i);
                return bits(below);
            }
            case 2: {
                int sum = now.p(person).debt;
                for (int i : now.line(person)) sum += now.p(i).debt;
                return sum;
            }
            case 3: {
                int many = 0;
                for (int q : new int[] {now.p(person).father, now.p(person).mother}) {
                    if (q < 0) continue;
                    for (int place : new int[] {q, now.p(q).father, now.p(q).mother}) {
                        if (place >= 0 && now.rank(place) > 0) many++;
                    }
                }
                return many;
            }
            case 4: return now.grand(person) ? 1 : 0;
            case 5: {
                List<int[]> heirs = new ArrayList<>();
                for (int i = 0; i < now.people.size(); i++) {
                    int far = now.kin(person, i)[0];
                    if (i != person && far >= 0 && now.lives(i, now.terms[0])) {
                        heirs.add(new int[] {far, now.p(i).born, i});
                    }
                }
                heirs.sort(Arrays::compare);
                return heirs.isEmpty() ? -1 : heirs.get(0)[2];
            }
            default: return -1;
        }
    }

    int marry(int one, int other) {
        if (!now.has(one) || !now.has(other)) return -1;
        return now.marry(one, other) ? 1 : 0;
    }

    int forged() {
        List<Integer> set = new ArrayList<>();
        for (int i = 0; i < now.people.size(); i++) {
            Person p = now.p(i);
            if (p.father >= 0 && !now.fits(p.father, i) || p.mother >= 0 && !now.fits(p.mother, i)) set.add(i);
        }
        return bits(set);
    }

    private int silentBuy(int parent, int child, int payer) {
        State before = now.copy();
        int price = now.buy(parent, child, payer);
        if (price >= 0) {
            ahead.add(before);
            boughtParents.add(parent);
            if (ahead.size() > 16) { ahead.remove(0); boughtParents.remove(0); }
        }
        return price;
    }

    int buy(int parent, int child, int payer) {
        int price = silentBuy(parent, child, payer);
        return price < 0 ? no(price) : yes(price);
    }

    int undo() {
        if (ahead.isEmpty()) return no(-3);
        State was = ahead.remove(ahead.size() - 1);
        now.people = was.people;
        now.chests = was.chests;
        return yes(boughtParents.remove(boughtParents.size() - 1));
    }

    int offers(int child, int payer) {
        if (!now.has(child) || !now.has(payer)) return -1;
        List<Integer> set = new ArrayList<>();
        for (int i = 0; i < now.people.size(); i++) if (now.copy().buy(i, child, payer) >= 0) set.add(i);
        return bits(set);
    }

    private void cheapRows(State s, int payer, int other, int price, int[] row, List<int[]> found) {
        if (s.grand(payer) && (other == -1 || s.marry(payer, other))) {
            int[] r = new int[2 + row.length];
            r[0] = price;
            r[1] = row.length;
            System.arraycopy(row, 0, r, 2, row.length);
            found.add(r);
        }
        if (row.length == 2) return;
        for (int c = 0; c < s.people.size(); c++) {
            for (int q = 0; q < s.people.size(); q++) {
                if (!s.aside(q, c)) continue;
                State t = s.copy();
                int paid = t.buy(q, c, payer);
                if (paid < 0) continue;
                int[] next = Arrays.copyOf(row, row.length + 1);
                next[row.length] = 16 * c + q;
                cheapRows(t, payer, other, price + paid, next, found);
            }
        }
    }

    int cheap(int payer, int other, int what) {
        if (!now.has(payer) || other != -1 && !now.has(other) || what < 0) return -1;
        List<int[]> found = new ArrayList<>();
        cheapRows(now.copy(), payer, other, 0, new int[0], found);
        if (found.isEmpty()) return -1;
        int[] best = found.stream().min(Comparator.comparingInt((int[] r) -> r[0])
                .thenComparingInt(r -> r[1]).thenComparing(Arrays::compare)).get();
        return what < best.length ? best[what] : -1;
    }

    private int rows(State s, int one, int other, int left) {
        if (left == 0) return s.kin(one, other)[0] >= 0 ? 1 : 0;
        int sum = 0;
        for (int c = 0; c < s.people.size(); c++) {
            for (int q = 0; q < s.people.size(); q++) {
                if (!s.aside(q, c)) continue;
                State t = s.copy();
                t.sell(q, c);
                sum += rows(t, one, other, left - 1);
            }
        }
        return sum;
    }

    int join(int one, int other, int what) {
        if (!now.has(one) || !now.has(other) || what < 0 || what > 1) return -1;
        for (int n = 0; n <= 2; n++) {
            int rows = rows(now, one, other, n);
            if (rows > 0) return what == 0 ? n : rows;
        }
        return -1;
    }

    int claim(int parent, int child) {
        if (parent == child) return no(-1);
        if (!now.has(parent) || !now.has(child)) return no(-2);
        if (now.claims.size() == 8) return no(-5);
        now.claims.add(new int[] {parent, child});
        return yes(now.claims.size());
    }

    int dismiss() {
        int n = now.claims.size();
        now.claims.clear();
        return n;
    }

    int lies(int what) {
        if (what < 0 || what > 1) return -1;
        int n = now.claims.size();
        State[] behind = new State[1 << n];
        behind[0] = now;
        for (int set = 1; set < 1 << n; set++) {
            for (int i = 0; i < n && behind[set] == null; i++) {
                State s = (set >> i & 1) == 0 ? null : behind[set ^ 1 << i];
                if (s == null || !s.aside(now.claims.get(i)[0], now.claims.get(i)[1])) continue;
                State t = s.copy();
                t.sell(now.claims.get(i)[0], now.claims.get(i)[1]);
                behind[set] = t;
            }
        }
        int best = -1;
        for (int left = 0; left < 1 << n; left++) {
            if (behind[(1 << n) - 1 - left] == null) continue;
            if (best < 0 || Integer.bitCount(left) < Integer.bitCount(best)) best = left;
        }
        return what == 0 ? Integer.bitCount(best) : best;
    }

    int sight(int one, int other, int far) {
        if (far < -1 || far > 20) return no(-1);
        if (!now.has(one) || !now.has(other)) return no(-2);
        if (now.sights.size() == 8) return no(-5);
        now.sights.add(new int[] {one, other, far});
        return yes(now.sights.size());
    }

    int forget() {
        int n = now.sights.size();
        now.sights.clear();
        return n;
    }

    int secret(int i) {
        List<Integer> found = new ArrayList<>();
        for (int c = 0; c < now.people.size(); c++) {
            for (int q = 0; q < now.people.size(); q++) {
                if (!now.aside(q, c)) continue;
                State t = now.copy();
                t.sell(q, c);
                boolean so = true;
                for (int[] s : now.sights) so &= t.kin(s[0], s[1])[0] == s[2];
                if (so) found.add(16 * c + q);
            }
        }
        if (i == -1) return found.size();
        return i >= 0 && i < found.size() ? found.get(i) : -1;
    }

    int fair(int seed, int n) {
        if (seed < 0 || seed > 1_000_000 || n < 1 || n > 60) return no(-1);
        int m = now.people.size();
        if (m == 0) return no(-3);
        State s = now.copy();
        long draw = seed;
        int bought = 0;
        for (int i = 0; i < n; i++) {
            int[] d = new int[3];
            for (int k = 0; k < 3; k++) {
                draw = (draw * 1103 + 12345) % 1_000_003;
                d[k] = (int) (draw % m);
            }
            if (s.buy(d[2], d[1], d[0]) >= 0) bought++;
        }
        fairState = s;
        return yes(bought);
    }

    int drawn(int person, int what) {
        if (fairState == null || !fairState.has(person)) return -1;
        if (what == 0) return fairState.p(person).purse;
        return what == 1 ? bits(fairState.line(person)) : -1;
    }

    int image(int k) {
        if (k != 0 && k != 1) return no(-1);
        images[k] = now.copy();
        return yes(0);
    }

    int back(int k) {
        if (k != 0 && k != 1) return no(-1);
        if (images[k] == null) return no(-2);
        now = images[k].copy();
        nothingToUndo();
        return yes(0);
    }

    int count(int what) {
        int sold = 0;
        for (Person p : now.people) if (p.sold) sold++;
        int[] all = {now.people.size(), sold, now.claims.size(), now.sights.size(), now.laws.size(), ahead.size(),
            tape.length, refused[1], refused[2], refused[3], refused[5], refused[6], now.force,
            now.terms[0], now.terms[1], now.terms[2], now.terms[3]};
        return what < 0 || what >= all.length ? -1 : all[what];
    }

    int status() { return status; }
}
