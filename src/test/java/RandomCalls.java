import java.util.ArrayList;
import java.util.List;
import java.util.Random;

/** Draws calls that lead into states in which much can be asked, with some that can't be. */
final class RandomCalls {
    private static final String[] LAW_WORDS = {"born", "lived", "noble", "debt", "family", "side", "age", "own",
        "year", "mood"};
    private static final String[] ORDER_WORDS = {"now", "people", "done", "last", "purse", "kin"};
    private static final int[] WILD = {-1, -2, 16, 17, 99, 400, 1000, 1000000, 1000001, Integer.MAX_VALUE,
        Integer.MIN_VALUE, -3, 21, 120, 121, 999, 9999, 10000, 15, 8};

    private final Random random;
    private final boolean dear;

    RandomCalls(long seed, boolean dear) {
        this.random = new Random(seed);
        this.dear = dear;
    }

    /** A call as its name and its numbers. */
    static final class Call {
        final String name;
        final int[] numbers;

        Call(String name, int... numbers) {
            this.name = name;
            this.numbers = numbers;
        }

        @Override
        public String toString() {
            StringBuilder sb = new StringBuilder(name).append('(');
            for (int i = 0; i < numbers.length; i++) {
                sb.append(i == 0 ? "" : ", ").append(numbers[i]);
            }
            return sb.append(')').toString();
        }
    }

    private int below(int n) {
        return random.nextInt(n);
    }

    private boolean chance(int inHundred) {
        return below(100) < inHundred;
    }

    private int wildOr(int value) {
        return chance(2) ? WILD[below(WILD.length)] : value;
    }

    private int someone(int people) {
        return wildOr(people == 0 ? 0 : below(people));
    }

    private static int among(int least, int most, Random random) {
        return least + random.nextInt(most - least + 1);
    }

    /** Generations some thirty years apart, so that dates often fit. */
    private Call newPerson() {
        int generation = below(6);
        int born = chance(5) ? below(1000) : Math.min(999, 360 + generation * 28 + below(20));
        int lived = chance(10) ? below(121) : among(20, 90, random);
        return new Call("person", wildOr(below(2)), wildOr(born), wildOr(lived), wildOr(below(6)));
    }

    /** The calls by which a country comes to be. */
    List<Call> beginning() {
        List<Call> calls = new ArrayList<>();
        int people = chance(50) ? among(3, 9, random) : among(8, 17, random);
        for (int i = 0; i < people; i++) {
            calls.add(newPerson());
        }
        for (int i = 0; i < people; i++) {
            if (chance(70)) {
                calls.add(new Call("put", i, 2, among(0, chance(50) ? 9999 : 600, random)));
            }
            if (chance(25)) {
                calls.add(new Call("put", i, 0, 1));
            }
            if (chance(25)) {
                calls.add(new Call("put", i, 1, below(100)));
            }
        }
        for (int i = below(people); i > 0; i--) {
            calls.add(new Call("parent", below(people), below(people)));
        }
        return calls;
    }

    /** Sixteen times the child and the parent of what could be bought now; NONE, if nothing can. */
    private int pair(PlainModel.State now) {
        List<Integer> pairs = new ArrayList<>();
        for (int child = 0; child < now.people.size(); child++) {
            for (int parent = 0; parent < now.people.size(); parent++) {
                if (now.aside(parent, child)) {
                    pairs.add(16 * child + parent);
                }
            }
        }
        return pairs.isEmpty() ? BoughtKin.NONE : pairs.get(below(pairs.size()));
    }

    private int payerFor(PlainModel.State now, int child) {
        for (int tries = 0; tries < 4; tries++) {
            int payer = below(now.people.size());
            if (payer == child || now.line(payer).contains(child)) {
                return payer;
            }
        }
        return child;
    }

    private void purchase(List<Call> calls, PlainModel.State now) {
        int people = now.people.size();
        int pair = pair(now);
        if (pair == BoughtKin.NONE || chance(15)) {
            int child = someone(people);
            calls.add(new Call("buy", someone(people), child, chance(50) ? child : someone(people)));
            return;
        }
        int payer = payerFor(now, pair / 16);
        if (chance(40)) {
            calls.add(new Call("put", payer, 2, 5000 + below(5000)));
        }
        calls.add(new Call("buy", pair % 16, pair / 16, payer));
    }

    /** Told of how it would be behind a purchase, so that there may be a secret. */
    private void sights(List<Call> calls, PlainModel.State now) {
        int pair = pair(now);
        if (pair == BoughtKin.NONE) {
            return;
        }
        PlainModel.State then = now.copy();
        then.sell(pair % 16, pair / 16);
        calls.add(new Call("forget"));
        for (int i = 1 + below(5); i > 0; i--) {
            int one = chance(50) ? pair / 16 : below(now.people.size());
            int other = below(now.people.size());
            calls.add(new Call("sight", one, other, chance(90) ? then.kin(one, other)[0] : below(4)));
        }
        calls.add(new Call("secret", -1));
        calls.add(new Call("secret", below(3)));
    }

    private void claims(List<Call> calls, PlainModel.State now) {
        int people = now.people.size();
        calls.add(new Call("dismiss"));
        for (int i = 1 + below(9); i > 0; i--) {
            int pair = chance(80) ? pair(now) : BoughtKin.NONE;
            calls.add(pair == BoughtKin.NONE ? new Call("claim", someone(people), someone(people))
                : new Call("claim", pair % 16, pair / 16));
        }
        calls.add(new Call("lies", 0));
        calls.add(new Call("lies", 1));
    }

    private void cheapCalls(List<Call> calls, PlainModel.State now) {
        int people = now.people.size();
        int pair = pair(now);
        int payer = pair == BoughtKin.NONE ? someone(people) : payerFor(now, pair / 16);
        if (now.has(payer) && chance(85)) {
            calls.add(new Call("put", payer, 2, chance(70) ? 9999 : below(10000)));
            calls.add(new Call("terms", 0, Math.min(999, now.p(payer).born + below(20))));
            for (int i = below(4); i > 0; i--) {
                calls.add(new Call("put", below(people), 0, 1));
            }
            if (pair != BoughtKin.NONE) {
                calls.add(new Call("put", pair % 16, 0, 1));
            }
        }
        int other = chance(50) ? -1 : someone(people);
        for (int what = 0; what < 5; what++) {
            calls.add(new Call("cheap", payer, other, what));
        }
    }

    /** One call, or several that belong together. */
    List<Call> next(PlainModel.State now) {
        int people = now.people.size();
        List<Call> calls = new ArrayList<>();
        int kind = below(100);
        if (kind < 12) {
            calls.add(change(people));
        } else if (kind < 26) {
            purchase(calls, now);
        } else if (kind < 28) {
            text(calls, law(), "law");
            calls.add(new Call("force", wildOr(among(-1, now.laws.size(), random))));
        } else if (kind < 32) {
            text(calls, orders(now), "orders");
            calls.add(new Call("stopped"));
        } else if (kind < 34) {
            sights(calls, now);
        } else if (kind < 36) {
            claims(calls, now);
        } else if (kind < 40 && dear) {
            cheapCalls(calls, now);
        } else if (kind == 45) {
            row(calls);
        } else if (kind == 46) {
            calls.add(new Call("undo"));
            calls.add(new Call("undo"));
        } else if (kind == 47) {
            calls.add(new Call(chance(50) ? "image" : "back", wildOr(below(2))));
        } else if (kind == 48) {
            calls.add(new Call("fair", wildOr(below(1000001)), wildOr(among(1, 60, random))));
            calls.add(new Call("drawn", someone(people), wildOr(below(2))));
            calls.add(new Call("drawn", someone(people), wildOr(below(2))));
        } else if (kind == 49) {
            tapeCalls(calls);
        } else {
            calls.add(question(people));
        }
        return calls;
    }

    private Call change(int people) {
        switch (below(9)) {
            case 0: return newPerson();
            case 1: return new Call("put", someone(people), wildOr(below(3)), wildOr(below(2)));
            case 2: return new Call("put", someone(people), 2, wildOr(below(10000)));
            case 3: return new Call("parent", someone(people), someone(people));
            case 4: {
                int what = wildOr(below(4));
                int value = what == 0 ? among(380, 560, random) : what == 2 ? among(12, 40, random) : below(10);
                return new Call("terms", what, wildOr(value));
            }
            case 5: return chance(20) ? new Call("dismiss") : new Call("claim", someone(people), someone(people));
            case 6: return new Call("claim", someone(people), someone(people));
            case 7: return chance(25) ? new Call("forget")
                : new Call("sight", someone(people), someone(people), wildOr(among(-1, 4, random)));
            default: return new Call("sight", someone(people), someone(people), -1);
        }
    }

    private Call question(int people) {
        switch (below(dear ? 17 : 15)) {
            case 0: return new Call("of", someone(people), wildOr(below(12)));
            case 1: return new Call("chest", wildOr(below(7)));
            case 2: return new Call("asks", someone(people), someone(people), wildOr(below(4)));
            case 3: return new Call("kin", someone(people), someone(people), wildOr(below(4)));
            case 4: return new Call("line", someone(people), wildOr(below(7)));
            case 5: return new Call("line", someone(people), 5);
            case 6: return new Call("marry", someone(people), someone(people));
            case 7: return new Call("forged");
            case 8: {
                int child = someone(people);
                return new Call("offers", child, chance(50) ? child : someone(people));
            }
            case 9: return new Call("lies", wildOr(below(2)));
            case 10: return new Call("secret", wildOr(among(-1, 6, random)));
            case 11: return new Call("count", wildOr(below(18)));
            case 12: return new Call("fault");
            case 13: return new Call("mould");
            case 14: return new Call("status");
            case 15: return new Call("cheap", someone(people), chance(60) ? -1 : someone(people), wildOr(below(5)));
            default: return new Call("join", someone(people), someone(people), wildOr(below(2)));
        }
    }

    private void tapeCalls(List<Call> calls) {
        calls.add(new Call("feed", random.nextInt(), random.nextInt(), below(70000), 0, random.nextInt()));
        calls.add(new Call("end", wildOr(below(60))));
        calls.add(new Call(chance(30) ? "law" : chance(40) ? "orders" : "row"));
        calls.add(new Call("fault"));
    }

    private void bytes(List<Call> calls, byte[] bytes) {
        calls.add(new Call("end", 0));
        for (int[] five : Feeding.feeds(bytes)) {
            calls.add(new Call("feed", five));
        }
        calls.add(new Call("end", bytes.length));
    }

    private void text(List<Call> calls, String text, String reader) {
        String cut = text.length() > 400 ? text.substring(0, 400) : text;
        bytes(calls, Feeding.bytes(cut));
        calls.add(new Call(reader));
        calls.add(new Call("fault"));
    }

    private void row(List<Call> calls) {
        byte[] bytes = new byte[below(4) * 5 + (chance(70) ? 5 : among(1, 5, random))];
        for (int i = 0; i < bytes.length; i += 5) {
            int born = chance(90) ? among(360, 520, random) : below(65536);
            int[] five = {chance(95) ? below(2) : below(256), born / 256, born % 256, wildByte(among(20, 90, random)),
                wildByte(below(6))};
            for (int k = 0; k < 5 && i + k < bytes.length; k++) {
                bytes[i + k] = (byte) five[k];
            }
        }
        bytes(calls, bytes);
        calls.add(new Call("row"));
        calls.add(new Call("mould"));
    }

    private int wildByte(int value) {
        return chance(95) ? value : below(256);
    }

    private String law() {
        StringBuilder sb = new StringBuilder();
        int clauses = chance(3) ? among(11, 14, random) : 1 + below(4);
        for (int i = 0; i < clauses; i++) {
            sb.append(i == 0 ? "" : blanks(";"));
            int kind = below(clauses > 6 ? 1 : 5);
            if (kind == 4) {
                sb.append(blanks("bars"));
            } else {
                sb.append(kind < 2 ? "price " : "ranks ");
                sum(sb, clauses > 6 ? 0 : 2, false);
            }
            if (kind == 4 || chance(40)) {
                sb.append(" if ");
                test(sb, clauses > 6 ? 0 : 2, false);
            }
        }
        return spoilt(sb);
    }

    private String orders(PlainModel.State now) {
        int people = now.people.size();
        StringBuilder sb = new StringBuilder();
        int clauses = chance(3) ? among(11, 14, random) : 1 + below(4);
        for (int i = 0; i < clauses; i++) {
            sb.append(i == 0 ? "" : blanks(";"));
            if (chance(35)) {
                sb.append("year ");
                if (chance(50)) {
                    sb.append("now ").append(chance(50) ? "+ " : "- ").append(below(30));
                } else {
                    sum(sb, 1, true);
                }
            } else {
                int pair = pair(now);
                int child = pair != BoughtKin.NONE ? pair / 16 : people == 0 ? 0 : below(people);
                sb.append("buy ");
                if (pair != BoughtKin.NONE && chance(85)) {
                    sb.append(pair % 16);
                } else {
                    personSum(sb, people);
                }
                sb.append(" for ").append(child).append(" by ");
                if (people > 0 && chance(85)) {
                    sb.append(payerFor(now, child));
                } else {
                    personSum(sb, people);
                }
            }
            if (chance(10)) {
                sb.append(" times ").append(wildOr(among(1, chance(80) ? 3 : 20, random)));
            }
            if (chance(45)) {
                sb.append(" if ");
                test(sb, clauses > 6 ? 0 : 2, true);
            }
        }
        return spoilt(sb);
    }

    private void personSum(StringBuilder sb, int people) {
        if (chance(80)) {
            sb.append(people == 0 ? 0 : below(people));
        } else if (chance(50)) {
            sb.append("done + ").append(below(6));
        } else {
            sum(sb, 1, true);
        }
    }

    private String blanks(String text) {
        return chance(70) ? text : chance(50) ? text + " " : "  " + text + "   ";
    }

    private void sum(StringBuilder sb, int depth, boolean ofOrders) {
        int many = 1 + (depth == 0 ? 0 : below(3));
        for (int i = 0; i < many; i++) {
            if (i > 0) {
                sb.append(blanks(String.valueOf("+-*/%*".charAt(below(6)))));
            }
            part(sb, depth, ofOrders);
        }
    }

    private void part(StringBuilder sb, int depth, boolean ofOrders) {
        int kind = below(10);
        if (kind < 4) {
            sb.append(chance(70) ? below(13) : chance(2) ? 1001 : chance(20) ? 1000 : below(1001));
        } else if (kind < 6 && depth > 0) {
            sb.append(blanks("["));
            sum(sb, depth - 1, ofOrders);
            sb.append(blanks("]"));
        } else if (ofOrders) {
            String word = ORDER_WORDS[below(ORDER_WORDS.length)];
            sb.append(word);
            if (word.equals("purse") || word.equals("kin")) {
                sb.append(' ').append(chance(2) ? 16 : below(16));
            }
            if (word.equals("kin")) {
                sb.append(' ').append(chance(2) ? 16 : below(16));
            }
        } else {
            sb.append(LAW_WORDS[below(LAW_WORDS.length)]);
        }
    }

    private void test(StringBuilder sb, int depth, boolean ofOrders) {
        int many = 1 + (depth == 0 ? 0 : below(3));
        for (int i = 0; i < many; i++) {
            if (i > 0) {
                sb.append(chance(50) ? " or " : " and ");
            }
            for (int n = chance(15) ? 1 + below(2) : 0; n > 0; n--) {
                sb.append("not ");
            }
            if (depth > 0 && chance(25)) {
                sb.append(blanks("("));
                test(sb, depth - 1, ofOrders);
                sb.append(blanks(")"));
            } else {
                sum(sb, depth, ofOrders);
                sb.append(blanks(String.valueOf("<>=".charAt(below(3)))));
                sum(sb, depth, ofOrders);
            }
        }
    }

    /** Now and then a text that has a letter too many, too few or another one. */
    private String spoilt(StringBuilder sb) {
        if (chance(20) && sb.length() > 0) {
            int at = below(sb.length());
            switch (below(4)) {
                case 0: sb.deleteCharAt(at); break;
                case 1: sb.insert(at, " ;[](if+x7#A".charAt(below(12))); break;
                case 2: sb.setLength(at); break;
                default: sb.setCharAt(at, (char) below(256)); break;
            }
        }
        return sb.toString();
    }
}
