import java.util.LinkedHashMap;
import java.util.Map;
import java.util.function.ToIntFunction;

/** Terms IV and promises 35 to 38: for each sentence of the document that names an edge a test of its own. */
public final class EdgesOfImagesTest {
    private static final Due DUE = new Due();

    /** "IMAGES 0, 1", promise 35: "-1." */
    private static void twoImages() {
        BoughtKin x = Land.men(1);
        for (int k : Land.outside(0, 1)) {
            DUE.is("35: k " + k, x.image(k), -1);
        }
        DUE.is("36: none was kept", x.back(0) + x.back(1), -4);
        DUE.is("35: 0", x.image(0), 0);
        x.person(0, 1, 1, 1);
        DUE.is("35: 1", x.image(1), 0);
        x.person(0, 2, 2, 2);
        DUE.is("36: to 0", x.back(0) + x.count(0), 1);
        DUE.is("36: to 1", x.back(1) + x.count(0), 2);
    }

    /** Promise 36: "-1; -2 it was not kept." */
    private static void imageNotKept() {
        BoughtKin x = Land.men(3);
        for (int k : Land.outside(0, 1)) {
            DUE.is("36: k " + k, x.back(k), -1);
        }
        DUE.is("36: 0 was not kept", x.back(0), -2);
        DUE.is("36: 1 was not kept", x.back(1), -2);
        x.image(1);
        DUE.is("36: 0 was not, though 1 was", x.back(0), -2);
        DUE.is("36: 1 was", x.back(1), 0);
        DUE.is("36: all is there", x.count(0), 3);
    }

    /** A new object may be kept, and gone back to. */
    private static void imageOfNothing() {
        BoughtKin x = new BoughtKin();
        x.image(0);
        for (int i = 0; i < 16; i++) {
            x.person(0, 400 + 20 * i, 60, 0);
        }
        Land.law(x, "bars");
        x.claim(0, 1);
        x.sight(0, 1, 1);
        x.terms(0, 1);
        x.terms(1, 1);
        x.terms(2, 20);
        x.terms(3, 1);
        x.back(0);
        int[] want = {0, 0, 0, 0, 0, 0};
        for (int what = 0; what < want.length; what++) {
            DUE.is("36: nothing, " + what, x.count(what), want[what]);
        }
        DUE.is("36: no LAW in FORCE", x.count(12), -1);
        DUE.is("36: TERMS", x.count(13) + x.count(14) + x.count(15) + x.count(16), 520);
        DUE.is("36: nobody", x.of(0, 3), -1);
        DUE.is("36: no LAW", x.force(0), -2);
        for (int i = 0; i < 16; i++) {
            DUE.is("36: room for sixteen", x.person(1, 1, 1, 1), i);
        }
        DUE.is("36: with nothing of those who were there", x.line(15, 0) + x.of(15, 7) + x.of(15, 3), 0);
    }

    /** "keep all": PEOPLE, CHESTS, SIGHTS, CLAIMS, TERMS, LAWS, which is in FORCE */
    private static void keepAll() {
        BoughtKin x = Land.rich();
        x.put(4, 0, 1);
        x.put(4, 1, 44);
        x.parent(5, 7);
        x.buy(2, 4, 4);
        x.claim(0, 6);
        x.sight(2, 4, 1);
        Land.law(x, "price 7");
        Land.law(x, "price 8");
        x.force(0);
        x.terms(0, 510);
        x.terms(1, 5);
        x.terms(2, 17);
        x.terms(3, 3);
        x.image(0);
        x.put(4, 0, 0);
        x.put(4, 1, 0);
        x.put(4, 2, 0);
        x.parent(3, 4);
        x.parent(1, 2);
        x.put(6, 2, 100);
        x.buy(4, 6, 6);
        x.claim(0, 5);
        x.forget();
        Land.law(x, "price 9");
        x.terms(0, 1);
        x.terms(1, 1);
        x.terms(2, 31);
        x.terms(3, 1);
        x.person(0, 0, 0, 0);
        x.back(0);
        int[] of4 = {1, 44, 900, 0, 460, 80, 4, 2, -1, 0, 1};
        for (int what = 0; what < of4.length; what++) {
            DUE.is("36: of(4, " + what + ")", x.of(4, what), of4[what]);
        }
        DUE.is("36: by birth", x.of(7, 8), 5);
        DUE.is("36: no MOTHER", x.of(2, 8), -1);
        DUE.is("36: PURSE of another one", x.of(6, 2), 1000);
        DUE.is("36: no FATHER of 6", x.of(6, 7), -1);
        DUE.is("36: CHEST", x.chest(2), 100);
        DUE.is("36: the other CHEST", x.chest(4), 0);
        DUE.is("36: SOLD", x.of(2, 9), 1);
        int[] want = {8, 1, 1, 1, 2, 0};
        for (int what = 0; what < want.length; what++) {
            DUE.is("36: count " + what, x.count(what), want[what]);
        }
        DUE.is("36: FORCE", x.count(12), 0);
        DUE.is("36: YEAR", x.count(13), 510);
        DUE.is("36: BAN", x.count(14), 5);
        DUE.is("36: GAP", x.count(15), 17);
        DUE.is("36: MOOD", x.count(16), 3);
        DUE.is("36: PRICE", x.asks(0, 4, 0), 7);
        DUE.is("36: the CLAIM can't be by DATES", x.lies(1), 1);
        DUE.is("36: the SIGHT is so by any", x.secret(-1) > 0 ? 1 : 0, 1);
        x.force(1);
        DUE.is("36: the other LAW", x.asks(0, 4, 0), 8);
    }

    /** The same: LAWS of the same numbers that are others. */
    private static void keepEachLaw() {
        BoughtKin x = Land.men(2);
        x.image(0);
        for (int i = 0; i < 6; i++) {
            Land.law(x, "price 10 + " + i);
        }
        x.image(1);
        x.back(0);
        for (int i = 0; i < 6; i++) {
            Land.law(x, "price 20 + " + i);
        }
        x.image(0);
        x.back(1);
        for (int i = 0; i < 6; i++) {
            x.force(i);
            DUE.is("36: LAW " + i + " of IMAGE 1", x.asks(0, 1, 0), 10 + i);
        }
        x.back(0);
        for (int i = 0; i < 6; i++) {
            x.force(i);
            DUE.is("36: LAW " + i + " of IMAGE 0", x.asks(0, 1, 0), 20 + i);
        }
    }

    /** "but the TAPE" */
    private static void tapeStays() {
        BoughtKin x = Land.men(2);
        x.image(0);
        Feeding.put(x, "price 77");
        x.back(0);
        DUE.is("36: the TAPE stays", x.count(6), 8);
        x.force(x.law());
        DUE.is("36: as it is", x.asks(0, 1, 0), 77);
        Feeding.put(x, "bars");
        x.image(1);
        x.end(2);
        x.back(1);
        DUE.is("36: the TAPE is not kept", x.count(6), 2);
    }

    /** "FAULT, MOULD, where ORDERS stopped" */
    private static void faultMouldStopped() {
        BoughtKin x = Land.men(2);
        Land.law(x, "bars x");
        Land.orders(x, "year 1000");
        Feeding.put(x, new byte[7]);
        x.row();
        x.image(0);
        Land.orders(x, "year 3;year 1000");
        Land.law(x, "price x");
        Feeding.put(x, new byte[] {9, 9, 9, 9, 9, 9, 9, 9, 9, 9, 9});
        x.row();
        x.back(0);
        DUE.is("36: FAULT stays", x.fault(), 6);
        DUE.is("36: MOULD stays", x.mould(), 3);
        DUE.is("36: where ORDERS stopped stays", x.stopped(), 1);
    }

    /** "what can be undone (nothing, behind back())" */
    private static void nothingUndoneBehindBack() {
        BoughtKin x = Land.rich();
        x.buy(2, 4, 4);
        x.image(0);
        DUE.is("35: what can be undone stays behind image()", x.count(5), 1);
        x.buy(0, 2, 4);
        x.back(0);
        DUE.is("36: nothing", x.count(5), 0);
        DUE.is("36: REFUSED", x.undo(), -3);
        DUE.is("36: it stands", x.of(4, 7), 2);
        x.buy(0, 2, 4);
        x.back(1);
        x.back(2);
        DUE.is("36: a back() that was REFUSED leaves it", x.undo(), 0);
        x.buy(0, 2, 4);
        x.undo();
        x.back(0);
        DUE.is("36: nothing again", x.undo(), -3);
    }

    /** "the latest FAIR" */
    private static void fairStays() {
        BoughtKin x = Land.rich();
        x.fair(3, 1);
        x.image(0);
        x.person(0, 0, 0, 0);
        x.put(8, 2, 88);
        x.fair(3, 1);
        x.back(0);
        DUE.is("36: the latest FAIR stays", x.drawn(8, 0), 88);
        DUE.is("36: though that one is gone", x.of(8, 2), -1);
    }

    /** "(IMAGES stay)" */
    private static void imagesStay() {
        BoughtKin x = Land.men(1);
        x.image(0);
        x.person(0, 5, 5, 5);
        x.image(1);
        for (int i = 0; i < 3; i++) {
            x.back(0);
            DUE.is("36: 0 is as it was then", x.count(0), 1);
            x.person(0, 5, 5, 5);
            x.put(0, 2, 9);
            x.put(1, 2, 9);
            Land.law(x, "bars");
            x.back(1);
            DUE.is("36: 1 is as it was then", x.count(0) * 10 + x.of(0, 2) + x.of(1, 2), 20);
            DUE.is("36: without a LAW", x.count(4), 0);
            x.put(0, 2, 9);
        }
    }

    /** "IMAGE k is kept": another one in its place */
    private static void imageOverImage() {
        BoughtKin x = Land.men(1);
        x.image(0);
        x.person(0, 5, 5, 5);
        x.image(0);
        x.person(0, 5, 5, 5);
        x.back(0);
        DUE.is("35: the later one", x.count(0), 2);
    }

    /** Promise 37: "7 .. 11 how many calls were REFUSED by -1, -2, -3, -5, -6 (IMAGES do not keep that)" */
    private static void refusedCalls() {
        BoughtKin x = Land.men(16);
        x.image(0);
        for (int i = 0; i < 5; i++) {
            x.terms(4, 0);
        }
        for (int i = 0; i < 4; i++) {
            x.put(16, 0, 0);
        }
        for (int i = 0; i < 3; i++) {
            x.undo();
        }
        x.person(0, 0, 0, 0);
        x.person(0, 0, 0, 0);
        x.row();
        int[] want = {5, 4, 3, 2, 1};
        for (int i = 0; i < 5; i++) {
            DUE.is("37: what " + (7 + i), x.count(7 + i), want[i]);
        }
        x.back(0);
        for (int i = 0; i < 5; i++) {
            DUE.is("37: IMAGES do not keep it, what " + (7 + i), x.count(7 + i), want[i]);
        }
    }

    /** Promise 37: "NONE for others." */
    private static void countOfOthers() {
        BoughtKin x = Land.men(16);
        for (int what : Land.outside(0, 16)) {
            DUE.is("37: what " + what, x.count(what), -1);
        }
        DUE.is("37: MOOD is the last", x.count(16), 0);
        DUE.is("37: NONE is no refusal", x.count(7) + x.status(), 0);
    }

    /** Promise 37: each at its most. */
    private static void countAtItsMost() {
        BoughtKin x = Land.ladder();
        for (int i = 0; i < 9; i++) {
            x.claim(0, 1);
            x.sight(0, 1, 1);
            Land.law(x, "price 100");
        }
        Land.orders(x, "buy 14 - done for 15 - done by 15 times 15");
        for (int i = 0; i < 21; i++) {
            x.feed(0, 0, 0, 0, 0);
        }
        int[] want = {16, 15, 8, 8, 6, 15, 400};
        for (int what = 0; what < want.length; what++) {
            DUE.is("37: the most, what " + what, x.count(what), want[what]);
        }
        DUE.is("37: the last LAW", x.count(12), 5);
    }

    /** Promise 38: "0 if it was not, or ahead of any." */
    private static void statusAtFirst() {
        BoughtKin x = new BoughtKin();
        DUE.is("38: ahead of any", x.status(), 0);
        x.of(0, 0);
        x.chest(9);
        x.end(9);
        DUE.is("38: others answered NONE", x.status(), 0);
        x.undo();
        DUE.is("38: REFUSED", x.status(), -3);
        DUE.is("38: asking does not change it", x.status(), -3);
        x.terms(0, 500);
        DUE.is("38: was not", x.status(), 0);
    }

    /** A LAW, an IMAGE and a purchase are there, the latest call was REFUSED by -1. */
    private static BoughtKin refusedJustNow(String tape) {
        BoughtKin x = Land.rich();
        Land.law(x, "price 50");
        x.image(0);
        x.buy(2, 4, 4);
        Feeding.put(x, tape);
        x.terms(9, 9);
        return x;
    }

    /** Promise 38: "the latest call of person, put, parent, terms, row, law, orders, force, buy, undo, claim, .." */
    private static void statusOfEach() {
        Map<String, ToIntFunction<BoughtKin>> calls = new LinkedHashMap<>();
        calls.put("person", x -> x.person(0, 0, 0, 0));
        calls.put("put", x -> x.put(0, 0, 1));
        calls.put("parent", x -> x.parent(0, 2));
        calls.put("terms", x -> x.terms(0, 3));
        calls.put("row", BoughtKin::row);
        calls.put("law", BoughtKin::law);
        calls.put("orders", BoughtKin::orders);
        calls.put("force", x -> x.force(-1));
        calls.put("buy", x -> x.buy(0, 2, 4));
        calls.put("undo", BoughtKin::undo);
        calls.put("claim", x -> x.claim(0, 1));
        calls.put("sight", x -> x.sight(0, 1, 1));
        calls.put("fair", x -> x.fair(1, 1));
        calls.put("image", x -> x.image(1));
        calls.put("back", x -> x.back(0));
        for (Map.Entry<String, ToIntFunction<BoughtKin>> call : calls.entrySet()) {
            BoughtKin x = refusedJustNow(call.getKey().equals("orders") ? "year 5" : "bars");
            DUE.is("38: REFUSED ahead of " + call.getKey(), x.status(), -1);
            DUE.is("38: " + call.getKey(), Math.min(0, call.getValue().applyAsInt(x)), 0);
            DUE.is("38: status of " + call.getKey(), x.status(), 0);
        }
        BoughtKin y = new BoughtKin();
        y.terms(9, 9);
        DUE.is("38: force answers NONE, which was", y.force(-1), -1);
        DUE.is("38: and was not REFUSED", y.status(), 0);
    }

    /** The same sentence: no other call has one. */
    private static void statusOfOthers() {
        Map<String, ToIntFunction<BoughtKin>> calls = new LinkedHashMap<>();
        calls.put("of", x -> x.of(0, 4));
        calls.put("chest", x -> x.chest(2));
        calls.put("feed", x -> x.feed(0, 0, 0, 0, 0));
        calls.put("end", x -> x.end(0));
        calls.put("mould", BoughtKin::mould);
        calls.put("fault", BoughtKin::fault);
        calls.put("stopped", BoughtKin::stopped);
        calls.put("asks", x -> x.asks(0, 4, 0));
        calls.put("kin", x -> x.kin(2, 4, 0));
        calls.put("line", x -> x.line(4, 0));
        calls.put("marry", x -> x.marry(4, 5));
        calls.put("forged", BoughtKin::forged);
        calls.put("offers", x -> x.offers(4, 4));
        calls.put("cheap", x -> x.cheap(4, -1, 0));
        calls.put("join", x -> x.join(2, 4, 0));
        calls.put("dismiss", BoughtKin::dismiss);
        calls.put("lies", x -> x.lies(0));
        calls.put("forget", BoughtKin::forget);
        calls.put("secret", x -> x.secret(-1));
        calls.put("drawn", x -> x.drawn(0, 0));
        calls.put("count", x -> x.count(0));
        calls.put("status", BoughtKin::status);
        for (Map.Entry<String, ToIntFunction<BoughtKin>> call : calls.entrySet()) {
            BoughtKin x = refusedJustNow("bars");
            call.getValue().applyAsInt(x);
            DUE.is("38: behind " + call.getKey(), x.status(), -1);
        }
    }

    public static void main(String[] args) {
        twoImages();
        imageNotKept();
        imageOfNothing();
        keepAll();
        keepEachLaw();
        tapeStays();
        faultMouldStopped();
        nothingUndoneBehindBack();
        fairStays();
        imagesStay();
        imageOverImage();
        refusedCalls();
        countOfOthers();
        countAtItsMost();
        statusAtFirst();
        statusOfEach();
        statusOfOthers();
        DUE.end();
    }
}
