/** Promise 18: most. */
public final class Promise18Test {
    private static final int NONE = MaterialPassports.NONE;

    public static void main(String[] args) {
        mostFirst();
        ofTheSame();
        everyOrder();
        questionChangesNothing();
        nothingLeftOut();
        eachPartOnce();
        onLastDay();
        greatest();
        none();
        changesNothing();
        Due.end();
    }

    private static void order(MaterialPassports x, int... kinds) {
        for (int k = 0; k < kinds.length; k++) {
            Due.is("most(" + k + ")", x.most(k), kinds[k]);
        }
        for (int wrong : Edge.outside(0, kinds.length - 1)) {
            Due.is("most(" + wrong + ")", x.most(wrong), NONE);
        }
        Due.is("most(5)", x.most(5), NONE);
    }

    private static void mostFirst() {
        Due.sentence("the most first");
        order(Scene.oneGood(1, 2, 3, 4, 5), 4, 3, 2, 1, 0);
        order(Scene.oneGood(5, 4, 3, 2, 1), 0, 1, 2, 3, 4);
        order(Scene.oneGood(3, 5, 1, 4, 2), 1, 3, 0, 4, 2);
        MaterialPassports x = Scene.goods(2);
        x.part(0, 3, 10, 1);
        x.part(1, 1, 9, 2);
        order(x, 3, 1);
        x.part(1, 1, 2, 3);
        order(x, 1, 3);
    }

    private static void ofTheSame() {
        Due.sentence("of the same the lesser kind");
        order(Scene.oneGood(7, 7, 7, 7, 7), 0, 1, 2, 3, 4);
        order(Scene.oneGood(6, 7, 7, 6, 7), 1, 2, 4, 0, 3);
        order(Scene.oneGood(1, 0, 0, 0, 1), 0, 4);
        MaterialPassports x = Scene.goods(1);
        x.part(0, 4, 5, 1);
        x.part(0, 2, 5, 1);
        order(x, 2, 4);
    }

    private static void nothingLeftOut() {
        Due.sentence("those of which there is nothing left out");
        order(new MaterialPassports());
        order(Scene.goods(1));
        order(Scene.oneGood(0, 0, 0, 0, 0));
        order(Scene.oneGood(0, 1, 0, 0, 0), 1);
        order(Scene.oneGood(1, 1, 1, 1, 0), 0, 1, 2, 3);
        order(Scene.oneGood(0, 1, 1, 1, 1), 1, 2, 3, 4);
        MaterialPassports x = Scene.oneGood(5, 6);
        x.change(0, 3, 0, 0);
        order(x, 1);
    }

    private static void eachPartOnce() {
        Due.sentence("by how much of it all parts have");
        MaterialPassports x = Scene.goods(2);
        x.part(0, 0, 15, 1);
        x.part(0, 0, 1, 1);
        x.part(1, 1, 10, 1);
        x.into(0, 1);
        x.into(1, 1);
        Due.is("within good 0", x.total(0, 1), 20);
        order(x, 0, 1);
    }

    private static void onLastDay() {
        Due.sentence("on day 100000");
        MaterialPassports x = Scene.oneGood(9, 5);
        x.change(0, 99999, 3, 4);
        order(x, 1, 3);
        x.change(0, 100000, 2, 6);
        order(x, 2, 1);
    }

    private static void greatest() {
        Due.sentence("by how much of it", "more than ints hold");
        MaterialPassports x = Scene.goods(1);
        x.part(0, 4, 1000000000L, 1);
        for (int number = 1; number < 6; number++) {
            x.part(0, 3, 1000000000L, 1);
        }
        for (int number = 6; number < 9; number++) {
            x.part(0, 2, 1000000000L, 1);
        }
        order(x, 3, 2, 4);
    }

    private static void none() {
        Due.sentence("The k-th kind, from 0 on ... NONE when there is none such");
        MaterialPassports x = Scene.oneGood(5, 4, 3, 2, 1);
        Due.is("most(-1)", x.most(-1), NONE);
        Due.is("most(0)", x.most(0), 0);
        Due.is("most(4)", x.most(4), 4);
        Due.is("most(5)", x.most(5), NONE);
    }

    private static void changesNothing() {
        Due.sentence("NONE when there is none such ... A call that is refused changes nothing");
        Refused.none("most(-1)", Scene::some, x -> x.most(-1));
        Refused.none("most(5)", Scene::full, x -> x.most(5));
        Refused.none("most(0) of nothing", () -> Scene.goods(1), x -> x.most(0));
    }

    private static void everyOrder() {
        Due.sentence(
                "the most first, of the same the lesser kind; those of which there is nothing left out", "every order");
        for (int which = 0; which < 3125; which++) {
            long[] grams = {which % 5, which / 5 % 5, which / 25 % 5, which / 125 % 5, which / 625};
            MaterialPassports x = Scene.oneGood(grams);
            int k = 0;
            for (int most = 4; most > 0; most--) {
                for (int kind = 0; kind < 5; kind++) {
                    if (grams[kind] == most) {
                        Due.is("most(" + k + ")", x.most(k), kind);
                        k++;
                    }
                }
            }
            Due.is("most(" + k + ")", x.most(k), NONE);
        }
    }

    private static void questionChangesNothing() {
        Due.sentence("Nothing is promised beyond the answers and state changes described above", "a question");
        Refused.changesNothing("most(0)", Scene::some, x -> x.most(0), 3);
    }
}
