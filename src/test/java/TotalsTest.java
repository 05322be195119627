/** Promises 7, 8, 9 and 18: totals, by days, what frees, and the kinds in order. */
public final class TotalsTest {
    private static final int NONE = MaterialPassports.NONE;

    public static void main(String[] args) {
        totalsOfKinds();
        totalsByDays();
        totalsOfInner();
        frees();
        most();
        mostWithInner();
        Due.end();
    }

    private static void totalsOfKinds() {
        MaterialPassports x = Due.withGoods(2);
        for (int i = 0; i < 10; i++) {
            x.part(0, i % 5, 10 + i, 1);
        }
        for (int kind = 0; kind < 5; kind++) {
            Due.is("total(0, " + kind + ")", x.total(0, kind), 25 + 2 * kind);
            Due.is("total(1, " + kind + ")", x.total(1, kind), 0);
        }
        Due.is("good -1", x.total(-1, 0), NONE);
        Due.is("good 2", x.total(2, 0), NONE);
        Due.is("kind -1", x.total(0, -1), NONE);
        Due.is("kind 5", x.total(0, 5), NONE);
        Due.is("good of MAX_VALUE", x.total(Integer.MAX_VALUE, 0), NONE);
        Due.is("kind of MIN_VALUE", x.total(0, Integer.MIN_VALUE), NONE);
    }

    private static void totalsByDays() {
        MaterialPassports x = Due.withGoods(1);
        x.part(0, 0, 100, 1);
        x.change(0, 50, 1, 200);
        x.change(0, 10, 2, 300);
        x.change(0, 50, 3, 400);
        x.change(0, 100000, 0, 7);
        long[][] dayKindGrams = {
            {0, 0, 100}, {9, 0, 100}, {10, 2, 300}, {49, 2, 300},
            {50, 3, 400}, {99999, 3, 400}, {100000, 0, 7}};
        for (long[] row : dayKindGrams) {
            for (int kind = 0; kind < 5; kind++) {
                Due.is("totalOn(0, " + kind + ", " + row[0] + ")",
                        x.totalOn(0, kind, row[0]), kind == row[1] ? row[2] : 0);
            }
        }
        Due.is("total is that of day 100000", x.total(0, 0), 7);
        Due.is("day -1", x.totalOn(0, 0, -1), NONE);
        Due.is("day 100001", x.totalOn(0, 0, 100001), NONE);
        Due.is("day 1 << 32", x.totalOn(0, 0, 1L << 32), NONE);
        Due.is("good 1", x.totalOn(1, 0, 5), NONE);
        Due.is("good -1", x.totalOn(-1, 0, 5), NONE);
        Due.is("kind 5", x.totalOn(0, 5, 5), NONE);
        Due.is("kind -1", x.totalOn(0, -1, 5), NONE);
        x.change(0, 0, 4, 1);
        Due.is("a change of day 0", x.totalOn(0, 4, 0), 1);
        Due.is("nothing is before it", x.totalOn(0, 0, 0), 0);
    }

    private static void totalsOfInner() {
        MaterialPassports x = Due.withGoods(3);
        x.part(0, 0, 1, 1);
        x.part(1, 1, 10, 1);
        x.part(2, 2, 100, 1);
        x.part(0, 3, 1000, 1);
        x.into(0, 1);
        x.into(3, 2);
        x.into(1, 2);
        x.change(2, 20, 4, 55);
        Due.is("own grams besides the inner's", x.total(0, 0), 1);
        Due.is("inner", x.total(0, 1), 10);
        Due.is("inner twice, on an earlier day", x.totalOn(0, 2, 19), 200);
        Due.is("inner twice, changed", x.totalOn(0, 4, 20), 110);
        Due.is("of kind 2 no more", x.total(0, 2), 0);
        Due.is("the middle one", x.total(1, 4), 55);
        Due.is("a good without inner ones", x.total(2, 4), 55);
        x.change(0, 30, 2, 6);
        Due.is("a changed part keeps its inner good", x.total(0, 4), 110);
        Due.is("and is of its new kind", x.total(0, 2), 6);
    }

    private static void frees() {
        MaterialPassports x = Due.withGoods(2);
        x.part(0, 0, 5, 10);
        x.part(1, 0, 7, 10);
        x.part(1, 0, 11, 20);
        x.part(1, 1, 13, 10);
        x.into(0, 1);
        Due.is("each part once", x.frees(0, 10), 12);
        Due.is("that life alone", x.frees(0, 20), 11);
        Due.is("other kind", x.frees(1, 10), 13);
        Due.is("a life that none has", x.frees(0, 15), 0);
        x.change(0, 100000, 1, 3);
        Due.is("on day 100000", x.frees(0, 10), 7);
        Due.is("on day 100000", x.frees(1, 10), 16);
        Due.is("kind -1", x.frees(-1, 10), NONE);
        Due.is("kind 5", x.frees(5, 10), NONE);
        Due.is("years -1", x.frees(0, -1), NONE);
        Due.is("years 201", x.frees(0, 201), NONE);
        Due.is("years 200", x.frees(0, 200), 0);
    }

    private static void most() {
        MaterialPassports x = Due.withGoods(2);
        Due.is("nothing", x.most(0), NONE);
        x.part(0, 4, 10, 1);
        x.part(1, 1, 10, 1);
        x.part(0, 2, 30, 1);
        x.part(0, 3, 0, 1);
        order(x, 2, 1, 4);
        x.part(1, 4, 25, 1);
        order(x, 4, 2, 1);
        x.change(2, 100000, 0, 100);
        order(x, 0, 4, 1);
        x.part(0, 3, 10, 1);
        x.part(0, 2, 10, 1);
        order(x, 0, 4, 1, 2, 3);
    }

    private static void mostWithInner() {
        MaterialPassports x = Due.withGoods(2);
        x.part(0, 0, 15, 1);
        x.part(0, 0, 1, 1);
        x.part(1, 1, 10, 1);
        x.into(0, 1);
        x.into(1, 1);
        // within good 0 there are 20 grams of kind 1, yet each part counts once
        order(x, 0, 1);
    }

    private static void order(MaterialPassports x, int... kinds) {
        for (int k = 0; k < kinds.length; k++) {
            Due.is("most(" + k + ")", x.most(k), kinds[k]);
        }
        Due.is("most behind the last", x.most(kinds.length), NONE);
        Due.is("most(-1)", x.most(-1), NONE);
        Due.is("most(5)", x.most(5), NONE);
        Due.is("most of MAX_VALUE", x.most(Integer.MAX_VALUE), NONE);
        Due.is("most of MIN_VALUE", x.most(Integer.MIN_VALUE), NONE);
    }
}
