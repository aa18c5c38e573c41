/** Countries that many tests begin with, texts put to them, and numbers that lie outside a range. */
final class Land {
    static final int LOW = Integer.MIN_VALUE;
    static final int HIGH = Integer.MAX_VALUE;

    private Land() {
    }

    /** Generations: 0, 1 (born 400), 2, 3 (430), 4, 5 (460), 6, 7 (490); even ones of sex 0, all live 80 years. */
    static BoughtKin generations() {
        BoughtKin x = new BoughtKin();
        for (int i = 0; i < 8; i++) {
            x.person(i % 2, 400 + i / 2 * 30, 80, i % 6);
        }
        return x;
    }

    /** The same with 1000 in each purse. */
    static BoughtKin rich() {
        BoughtKin x = generations();
        for (int i = 0; i < 8; i++) {
            x.put(i, 2, 1000);
        }
        return x;
    }

    /** People of sex 0 who all live in the years 500 to 509. */
    static BoughtKin men(int many) {
        BoughtKin x = new BoughtKin();
        for (int i = 0; i < many; i++) {
            x.person(0, 500, 10, 0);
        }
        return x;
    }

    /** Each by birth a parent of the next one, whatever the years say. */
    static BoughtKin chain(int many) {
        BoughtKin x = men(many);
        for (int i = 1; i < many; i++) {
            x.parent(i - 1, i);
        }
        return x;
    }

    /** Sixteen of sex 0, each twenty years younger than the one ahead, who could all be bought in a chain. */
    static BoughtKin ladder() {
        BoughtKin x = new BoughtKin();
        for (int i = 0; i < 16; i++) {
            x.person(0, 200 + 20 * i, 40, i % 6);
        }
        x.put(15, 2, 9999);
        return x;
    }

    /** The number of the law, which is in force then; below 0, if it was refused. */
    static int law(BoughtKin x, String text) {
        Feeding.put(x, text);
        int law = x.law();
        if (law >= 0) {
            x.force(law);
        }
        return law;
    }

    static int orders(BoughtKin x, String text) {
        Feeding.put(x, text);
        return x.orders();
    }

    static String times(String text, int n) {
        return text.repeat(n);
    }

    /** Just outside, far outside, and such as would be inside if they were cut to fewer bits. */
    static int[] outside(int least, int most) {
        return new int[] {least - 1, most + 1, least - 65536, least + 65536, most - 16777216, most + 16777216,
            LOW, LOW + 1, LOW + most, HIGH, HIGH - 1};
    }
}
