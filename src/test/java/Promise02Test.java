/** Promise 2: good. */
public final class Promise02Test {
    private static final int NONE = MaterialPassports.NONE;

    public static void main(String[] args) {
        numbers();
        newGoodHasNothing();
        eightAtMost();
        ninthChangesNothing();
        Due.end();
    }

    private static void numbers() {
        Due.sentence("One more good. Answers its number ... GOODS are numbered from 0 on");
        MaterialPassports x = new MaterialPassports();
        for (int good = 0; good < 8; good++) {
            Due.is("before it", x.version(good), NONE);
            Due.is("good()", x.good(), good);
            Due.is("behind it", x.version(good), 0);
        }
    }

    private static void eightAtMost() {
        Due.sentence("NONE when there are 8 ... 8 at most");
        MaterialPassports x = Scene.goods(7);
        Due.is("the eighth", x.good(), 7);
        for (int i = 0; i < 3; i++) {
            Due.is("the ninth", x.good(), NONE);
        }
        Due.is("version(7)", x.version(7), 0);
        Due.is("version(8)", x.version(8), NONE);
        Due.is("a part of the last", x.part(7, 4, 9, 1), 0);
        Due.is("a part of the ninth", x.part(8, 4, 9, 1), NONE);
        Due.totals(x, 7, 0, 0, 0, 0, 9);
    }

    private static void ninthChangesNothing() {
        Due.sentence("NONE when there are 8 ... A call that is refused changes nothing");
        Refused.none("good()", () -> Scene.goods(8), MaterialPassports::good);
        Refused.none("good()", Scene::full, MaterialPassports::good);
    }

    private static void newGoodHasNothing() {
        Due.sentence("One more good", "without parts, rights and versions");
        MaterialPassports x = Scene.some();
        Due.is("good()", x.good(), 3);
        Due.is("version(3)", x.version(3), 0);
        Due.totals(x, 3, 0, 0, 0, 0, 0);
        for (int person = 0; person < 8; person++) {
            Due.sees(x, person, 3, 0, NONE, NONE, NONE);
        }
        Due.is("n is 0", x.scored(3), 0);
        Due.is("its first part", x.part(3, 1, 5, 8), 6);
        for (int person = 0; person < 8; person++) {
            Due.sees(x, person, 3, 0, 1, 5, -2);
        }
        Due.totals(x, 0, 100, 0, 0, 310, 67);
    }
}
