/** Promise 9: frees. */
public final class Promise09Test {
    private static final int NONE = MaterialPassports.NONE;

    public static void main(String[] args) {
        ofThatLife();
        eachLife();
        questionChangesNothing();
        eachPartOnce();
        onLastDay();
        nothing();
        greatest();
        years();
        kinds();
        changesNothing();
        Due.end();
    }

    private static void ofThatLife() {
        Due.sentence("of all parts ... whose life is so many years");
        MaterialPassports x = Scene.goods(2);
        x.part(0, 0, 5, 10);
        x.part(1, 0, 7, 10);
        x.part(1, 0, 11, 11);
        x.part(1, 1, 13, 10);
        Due.is("9 years", x.frees(0, 9), 0);
        Due.is("10 years, of all goods", x.frees(0, 10), 12);
        Due.is("11 years", x.frees(0, 11), 11);
        Due.is("12 years", x.frees(0, 12), 0);
        Due.is("another kind", x.frees(1, 10), 13);
    }

    private static void eachPartOnce() {
        Due.sentence("of all goods, each part once");
        MaterialPassports x = Scene.goods(3);
        x.part(0, 0, 5, 10);
        x.part(1, 0, 6, 10);
        x.part(2, 0, 7, 10);
        x.part(0, 0, 8, 10);
        x.into(0, 2);
        x.into(1, 2);
        x.into(3, 1);
        Due.is("goods in goods", x.frees(0, 10), 26);
    }

    private static void onLastDay() {
        Due.sentence("on day 100000");
        MaterialPassports x = Scene.oneGood(5);
        x.change(0, 99999, 1, 6);
        Due.is("kind 0", x.frees(0, 1), 0);
        Due.is("kind 1", x.frees(1, 1), 6);
        x.change(0, 100000, 2, 7);
        Due.is("kind 1", x.frees(1, 1), 0);
        Due.is("kind 2", x.frees(2, 1), 7);
    }

    private static void nothing() {
        Due.sentence("The grams of a kind", "nothing");
        MaterialPassports x = new MaterialPassports();
        for (int kind = 0; kind < 5; kind++) {
            Due.is("no parts, 0 years", x.frees(kind, 0), 0);
            Due.is("no parts, 200 years", x.frees(kind, 200), 0);
        }
        x.good();
        x.part(0, 3, 0, 4);
        Due.is("no grams", x.frees(3, 4), 0);
    }

    private static void greatest() {
        Due.sentence("The grams of a kind", "the most");
        MaterialPassports x = Scene.goods(1);
        for (int number = 0; number < 24; number++) {
            x.part(0, 2, 1000000000L, 200);
        }
        Due.is("24 parts", x.frees(2, 200), 24000000000L);
    }

    private static void years() {
        Due.sentence("so many years, 0 .. 200; NONE when these are not such");
        MaterialPassports x = Scene.goods(1);
        for (int life : Edge.inside(0, 200)) {
            x.part(0, 4, 1 + life, life);
        }
        for (int life : Edge.inside(0, 200)) {
            Due.is("years " + life, x.frees(4, life), 1 + life);
        }
        for (int wrong : Edge.outside(0, 200)) {
            Due.is("years " + wrong, x.frees(4, wrong), NONE);
            Due.is("no parts, years " + wrong, new MaterialPassports().frees(0, wrong), NONE);
        }
    }

    private static void kinds() {
        Due.sentence("NONE when these are not such", "kind");
        MaterialPassports x = Scene.oneGood(1, 2, 3, 4, 5);
        for (int kind = 0; kind < 5; kind++) {
            Due.is("kind " + kind, x.frees(kind, 1), kind + 1);
        }
        for (int wrong : Edge.outside(0, 4)) {
            Due.is("kind " + wrong, x.frees(wrong, 1), NONE);
            Due.is("no parts, kind " + wrong, new MaterialPassports().frees(wrong, 1), NONE);
        }
    }

    private static void changesNothing() {
        Due.sentence("NONE when these are not such ... A call that is refused changes nothing");
        Refused.none("kind -1", Scene::some, x -> x.frees(-1, 10));
        Refused.none("kind 5", Scene::some, x -> x.frees(5, 10));
        Refused.none("years -1", Scene::some, x -> x.frees(0, -1));
        Refused.none("years 201", Scene::some, x -> x.frees(0, 201));
    }

    private static void eachLife() {
        Due.sentence("whose life is so many years, 0 .. 200", "each");
        MaterialPassports x = Scene.oneGood(5);
        for (int years = 0; years <= 200; years++) {
            x.life(0, years);
            Due.is("frees(0, " + years + ")", x.frees(0, years), 5);
        }
        MaterialPassports y = Scene.goods(1);
        y.part(0, 1, 6, 100);
        for (int years = 0; years <= 200; years++) {
            Due.is("frees(1, " + years + ")", y.frees(1, years), years == 100 ? 6 : 0);
        }
    }

    private static void questionChangesNothing() {
        Due.sentence("Nothing is promised beyond the answers and state changes described above", "a question");
        Refused.changesNothing("frees(3, 10)", Scene::some, x -> x.frees(3, 10), 310);
    }
}
