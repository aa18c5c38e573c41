import java.util.HashSet;
import java.util.Set;
import java.util.function.Supplier;
import java.util.function.ToIntFunction;

/** That a call which is REFUSED, or answered by NONE, changes nothing but what the document says; nor does a question. */
public final class RefusedTest {
    private static final Due DUE = new Due();
    private static final Set<String> COUNTED =
            Set.of("status()", "count(7)", "count(8)", "count(9)", "count(10)", "count(11)");
    private static final Set<String> TAPE = Set.of("count(6)", "tape as a row", "tape as a law", "tape as orders");

    /** Something of everything, and room for more of everything. */
    private static BoughtKin busy() {
        BoughtKin x = Land.rich();
        x.put(0, 0, 1);
        x.put(1, 0, 1);
        x.put(3, 1, 20);
        x.parent(4, 6);
        x.image(0);
        Land.law(x, "price 60 + side;ranks 3 if noble = 1");
        Land.law(x, "price 70;bars if own = 5");
        x.force(0);
        x.claim(0, 2);
        x.claim(0, 3);
        x.sight(0, 3, 1);
        x.fair(99, 60);
        Feeding.put(x, new byte[] {9, 9});
        x.row();
        Land.orders(x, "year 501;year 1000");
        Land.law(x, "price x");
        x.buy(2, 4, 4);
        x.buy(3, 4, 6);
        Feeding.put(x, "year 77;year 78");
        x.terms(0, 505);
        return x;
    }

    private static BoughtKin busyWithout(String tape) {
        BoughtKin x = busy();
        x.end(0);
        Feeding.put(x, tape);
        return x;
    }

    private static BoughtKin full() {
        BoughtKin x = busy();
        for (int i = 8; i < 16; i++) {
            x.person(i % 2, 500, 10, 2);
            x.claim(1, i);
            x.sight(1, i, -1);
        }
        for (int i = 0; i < 6; i++) {
            x.end(0);
            Feeding.put(x, "bars");
            x.law();
        }
        Feeding.put(x, "year 77;year 78");
        return x;
    }

    private static int[] counts(BoughtKin x) {
        return new int[] {x.count(7), x.count(8), x.count(9), x.count(10), x.count(11)};
    }

    /** The call is REFUSED by that, counted once, and changes nothing else but those aside. */
    private static void refused(String name, Supplier<BoughtKin> made, ToIntFunction<BoughtKin> call, int why,
            Set<String> aside) {
        BoughtKin x = made.get();
        int[] before = counts(x);
        DUE.is(name, call.applyAsInt(x), why);
        DUE.is(name + ", status", x.status(), why);
        int[] behind = counts(x);
        int[] places = {-1, -2, -3, -5, -6};
        for (int i = 0; i < 5; i++) {
            DUE.is(name + ", REFUSED by " + places[i], behind[i] - before[i], places[i] == why ? 1 : 0);
        }
        Set<String> all = new HashSet<>(aside);
        all.addAll(COUNTED);
        unchanged(name, made, call, all);
    }

    private static void refused(String name, Supplier<BoughtKin> made, ToIntFunction<BoughtKin> call, int why) {
        refused(name, made, call, why, Set.of());
    }

    private static void unchanged(String name, Supplier<BoughtKin> made, ToIntFunction<BoughtKin> call,
            Set<String> aside) {
        Snapshot behind = new Snapshot(() -> {
            BoughtKin x = made.get();
            call.applyAsInt(x);
            return x;
        });
        String difference = new Snapshot(made).differsFrom(behind, aside);
        DUE.is(name + ", nothing has changed (" + difference + ")", difference == null ? 0 : 1, 0);
    }

    private static void byNumbers() {
        Supplier<BoughtKin> busy = RefusedTest::busy;
        refused("person, SEX", busy, x -> x.person(2, 0, 0, 0), -1);
        refused("person, BORN", busy, x -> x.person(0, 1000, 0, 0), -1);
        refused("person, LIVED", busy, x -> x.person(0, 0, 121, 0), -1);
        refused("person, FAMILY", busy, x -> x.person(0, 0, 0, 6), -1);
        refused("put, what", busy, x -> x.put(0, 3, 0), -1);
        refused("put, NOBLE", busy, x -> x.put(2, 0, 2), -1);
        refused("put, DEBT", busy, x -> x.put(2, 1, 100), -1);
        refused("put, PURSE", busy, x -> x.put(2, 2, 10000), -1);
        refused("terms, what", busy, x -> x.terms(4, 1), -1);
        refused("terms, YEAR", busy, x -> x.terms(0, 1000), -1);
        refused("terms, BAN", busy, x -> x.terms(1, 10), -1);
        refused("terms, GAP", busy, x -> x.terms(2, 11), -1);
        refused("terms, MOOD", busy, x -> x.terms(3, -1), -1);
        refused("claim, the same", busy, x -> x.claim(2, 2), -1);
        refused("sight, far", busy, x -> x.sight(0, 1, 21), -1);
        refused("fair, SEED", busy, x -> x.fair(1000001, 1), -1);
        refused("fair, n", busy, x -> x.fair(1, 61), -1);
        refused("image", busy, x -> x.image(2), -1);
        refused("back", busy, x -> x.back(2), -1);
    }

    private static void byNobody() {
        Supplier<BoughtKin> busy = RefusedTest::busy;
        refused("put, nobody", busy, x -> x.put(8, 0, 1), -2);
        refused("parent, nobody", busy, x -> x.parent(8, 0), -2);
        refused("parent, no child", busy, x -> x.parent(0, 8), -2);
        refused("force, no LAW", busy, x -> x.force(2), -2);
        refused("buy, nobody", busy, x -> x.buy(8, 5, 5), -2);
        refused("buy, no child", busy, x -> x.buy(0, 8, 5), -2);
        refused("buy, nobody pays", busy, x -> x.buy(0, 5, 8), -2);
        refused("claim, nobody", busy, x -> x.claim(8, 0), -2);
        refused("claim, no child", busy, x -> x.claim(0, 8), -2);
        refused("sight, nobody", busy, x -> x.sight(8, 0, 1), -2);
        refused("sight, no other", busy, x -> x.sight(0, 8, 1), -2);
        refused("back, not kept", busy, x -> x.back(1), -2);
    }

    private static void byWhatStands() {
        Supplier<BoughtKin> busy = RefusedTest::busy;
        refused("parent, has one", busy, x -> x.parent(0, 4), -3);
        refused("parent, the same", busy, x -> x.parent(5, 5), -3);
        refused("parent, a ring", busy, x -> x.parent(6, 2), -3);
        refused("buy, has one", busy, x -> x.buy(0, 4, 4), -3);
        refused("buy, SOLD", busy, x -> x.buy(2, 5, 5), -3);
        refused("buy, the same", busy, x -> x.buy(5, 5, 5), -3);
        refused("buy, DATES", busy, x -> x.buy(0, 7, 7), -3);
        refused("buy, another one pays", busy, x -> x.buy(0, 5, 6), -3);
        refused("buy, the PURSE", () -> withLaw("price 1000 + 1"), x -> x.buy(0, 5, 5), -3);
        refused("buy, BARRED", () -> withLaw("bars"), x -> x.buy(0, 5, 5), -3);
        refused("undo, nothing", RefusedTest::nothingToUndo, BoughtKin::undo, -3);
        refused("fair, no PEOPLE", BoughtKin::new, x -> x.fair(1, 1), -3);
    }

    private static BoughtKin withLaw(String text) {
        BoughtKin x = busyWithout("");
        Land.law(x, text);
        return x;
    }

    private static BoughtKin nothingToUndo() {
        BoughtKin x = busy();
        x.put(7, 1, 1);
        return x;
    }

    private static void byRoom() {
        Supplier<BoughtKin> full = RefusedTest::full;
        refused("person, no room", full, x -> x.person(0, 0, 0, 0), -5);
        refused("claim, no room", full, x -> x.claim(0, 1), -5);
        refused("sight, no room", full, x -> x.sight(0, 1, 1), -5);
        refused("law, no room", full, BoughtKin::law, -5, TAPE);
    }

    private static void byTexts() {
        Set<String> read = new HashSet<>(TAPE);
        read.add("fault()");
        refused("row, nothing", () -> busyWithout(""), BoughtKin::row, -6);
        refused("law, nothing", () -> busyWithout(""), BoughtKin::law, -6, Set.of("fault()"));
        refused("law, ORDERS", RefusedTest::busy, BoughtKin::law, -6, read);
        refused("law, the last TOKEN", () -> busyWithout("price 1;bars;x"), BoughtKin::law, -6, read);
        read.add("stopped()");
        refused("orders, nothing", () -> busyWithout(""), BoughtKin::orders, -6, Set.of("fault()", "stopped()"));
        refused("orders, a LAW", () -> busyWithout("price 1"), BoughtKin::orders, -6, read);
        refused("orders, the last TOKEN", () -> busyWithout("year 1;buy 0 for 5 by 5;x"), BoughtKin::orders, -6, read);
        refused("orders, the last can't be", () -> busyWithout("year 1;buy 0 for 5 by 5;buy 1 for 5 by 5;year 1000"),
                BoughtKin::orders, -3, read);
        refused("orders, the last time can't be", () -> busyWithout("year now-60 times 9"), BoughtKin::orders, -3, read);
        refused("orders, bought twice", () -> busyWithout("buy 0 for 5 by 5 times 2"), BoughtKin::orders, -3, read);
    }

    private static void byNone() {
        Supplier<BoughtKin> busy = RefusedTest::busy;
        unchanged("end, too far", busy, x -> x.end(16), Set.of());
        unchanged("end, below 0", busy, x -> x.end(-1), Set.of());
        Supplier<BoughtKin> fullTape = () -> {
            BoughtKin x = busy();
            for (int i = 0; i < 19; i++) {
                x.feed(0x20202020, 0x20202020, 0x20202020, 0x20202020, 0x20202020);
            }
            return x;
        };
        unchanged("feed, too much", fullTape, x -> x.feed(1, 2, 3, 4, 5), Set.of());
    }

    private static void byQuestions() {
        for (int i = 0; i < Snapshot.parts(); i++) {
            int part = i;
            unchanged("questions of part " + part, RefusedTest::busy, x -> {
                Snapshot.askPart(x, part);
                return 0;
            }, Set.of());
        }
    }

    /** The countries are what they are meant to be, or little would be seen. */
    private static void countries() {
        BoughtKin x = busy();
        int[] want = {8, 2, 2, 1, 2, 2, 15};
        for (int what = 0; what < want.length; what++) {
            DUE.is("busy, what " + what, x.count(what), want[what]);
        }
        DUE.is("busy, FAULT, MOULD, stopped", x.fault() * 100 + x.mould() * 10 + x.stopped(), 611);
        DUE.is("busy, a FAIR", x.drawn(0, 0) >= 0 ? 1 : 0, 1);
        BoughtKin y = full();
        DUE.is("full", y.count(0) * 1000 + y.count(2) * 100 + y.count(3) * 10 + y.count(4), 16886);
    }

    public static void main(String[] args) {
        countries();
        byNumbers();
        byNobody();
        byWhatStands();
        byRoom();
        byTexts();
        byNone();
        byQuestions();
        DUE.end();
    }
}
