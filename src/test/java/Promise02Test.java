/** Promise 2: good. */
public final class Promise02Test {
    private static final int NONE = MaterialPassports.NONE;

    public static void main(String[] args) {
        numbers();
        eightAtMost();
        ninthChangesNothing();
        Due.end();
    }

    private static void numbers() {
        Due.sentence("GOODS are numbered from 0 on");
        MaterialPassports x = new MaterialPassports();
        for (int good = 0; good < 8; good++) {
            Due.is("before it", x.version(good), NONE);
            Due.is("good()", x.good(), good);
            Due.is("behind it", x.version(good), 0);
        }
    }

    private static void eightAtMost() {
        Due.sentence("NONE when there are 8");
        MaterialPassports x = Scene.goods(7);
        Due.is("the eighth", x.good(), 7);
        for (int i = 0; i < 3; i++) {
            Due.is("the ninth", x.good(), NONE);
        }
        Due.is("version(7)", x.version(7), 0);
        Due.is("version(8)", x.version(8), NONE);
        Due.is("a part of the last", x.part(7, 4, 9, 1), 0);
        Due.is("a part of the ninth", x.part(8, 4, 9, 1), NONE);
        Due.totals(x, 7, 0, 0, 0, 0, 9);
    }

    private static void ninthChangesNothing() {
        Due.sentence("NONE when there are 8; a call that is refused changes nothing");
        Refused.none("good()", () -> Scene.goods(8), MaterialPassports::good);
        Refused.none("good()", Scene::full, MaterialPassports::good);
    }
}
