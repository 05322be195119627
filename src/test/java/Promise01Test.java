/** Promise 1: a new object. */
public final class Promise01Test {
    private static final int NONE = MaterialPassports.NONE;

    public static void main(String[] args) {
        noGoods();
        noParts();
        noRights();
        noFormula();
        noTextAndNoChanges();
        objectsAreApart();
        Due.end();
    }

    private static void noGoods() {
        Due.sentence("No goods");
        MaterialPassports x = new MaterialPassports();
        Due.is("NONE", NONE, -1);
        for (int good = -1; good <= 8; good++) {
            Due.is("version", x.version(good), NONE);
            Due.is("total", x.total(good, 0), NONE);
            Due.is("totalOn", x.totalOn(good, 0, 0), NONE);
            Due.is("mark", x.mark(good, 0, 0), NONE);
            Due.is("right", x.right(0, good, true), false);
            Due.is("seen", x.seen(0, good, 0, 0), NONE);
            Due.is("part", x.part(good, 0, 0, 0), NONE);
        }
        Due.score(x, "1", 1);
        Due.is("scored", x.scored(0), Long.MIN_VALUE);
        Due.is("the first good", x.good(), 0);
        Due.is("its version", x.version(0), 0);
        Due.is("the next is none yet", x.version(1), NONE);
    }

    private static void noParts() {
        Due.sentence("no parts");
        MaterialPassports x = Scene.goods(2);
        Due.score(x, "k0", 1);
        for (int part = -1; part <= 24; part++) {
            Due.is("into", x.into(part, 1), false);
            Due.is("life", x.life(part, 1), false);
            Due.is("change", x.change(part, 0, 0, 1), false);
            Due.is("swap", x.swap(part, 0), NONE);
        }
        for (int kind = 0; kind < 5; kind++) {
            Due.is("total", x.total(0, kind), 0);
            Due.is("frees", x.frees(kind, 0), 0);
            Due.is("most", x.most(kind), NONE);
        }
        Due.is("seen", x.seen(0, 0, 0, 0), NONE);
        Due.value(x, "n", 0);
        Due.is("the first part", x.part(1, 0, 5, 1), 0);
    }

    private static void noRights() {
        Due.sentence("no rights");
        MaterialPassports x = Scene.goods(8);
        for (int good = 0; good < 8; good++) {
            x.part(good, 1, 5, 7);
            x.part(good, 1, 6, 7);
            for (int person = 0; person < 8; person++) {
                Due.sees(x, person, good, 0, 1, 11, -2);
            }
        }
    }

    private static void noFormula() {
        Due.sentence("no formula");
        MaterialPassports x = Scene.oneGood(5, 6);
        Due.is("scored(0)", x.scored(0), Long.MIN_VALUE);
        Due.is("swap(0, 1)", x.swap(0, 1), NONE);
        Due.is("score()", x.score(), -1);
        Due.is("scored(0)", x.scored(0), Long.MIN_VALUE);
    }

    private static void noTextAndNoChanges() {
        Due.sentence("No goods, no parts, no rights, no formula");
        MaterialPassports x = Scene.oneGood(5);
        for (int i = 0; i < 20; i++) {
            Due.is("change " + i, x.change(0, 1, 1, i), true);
        }
        for (int i = 0; i < 300; i++) {
            Due.is("unit " + i, x.unit(' '), true);
        }
        Due.is("score()", x.score(), -1);
    }

    private static void objectsAreApart() {
        Due.sentence("A new object");
        Scene.full();
        MaterialPassports x = new MaterialPassports();
        Due.is("good()", x.good(), 0);
        Due.is("version(0)", x.version(0), 0);
        Due.is("version(1)", x.version(1), NONE);
        Due.is("part", x.part(0, 0, 3, 7), 0);
        Due.totals(x, 0, 3, 0, 0, 0, 0);
        Due.sees(x, 7, 0, 0, 0, 3, -2);
        Due.is("scored(0)", x.scored(0), Long.MIN_VALUE);
        Due.is("score()", x.score(), -1);
    }
}
