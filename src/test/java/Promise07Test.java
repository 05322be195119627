/** Promise 7: total. */
public final class Promise07Test {
    private static final int NONE = MaterialPassports.NONE;

    public static void main(String[] args) {
        ofAKind();
        withoutADay();
        none();
        questionChangesNothing();
        changesNothing();
        Due.end();
    }

    private static void ofAKind() {
        Due.sentence("THE TOTAL of a good, a kind ... the grams of its parts that are of that kind");
        MaterialPassports x = Scene.goods(2);
        Due.totals(x, 0, 0, 0, 0, 0, 0);
        for (int i = 0; i < 10; i++) {
            x.part(0, i % 5, 10 + i, 1);
        }
        Due.totals(x, 0, 25, 27, 29, 31, 33);
        Due.totals(x, 1, 0, 0, 0, 0, 0);
        x.part(1, 4, 0, 1);
        Due.totals(x, 1, 0, 0, 0, 0, 0);
        x.part(1, 4, 1, 1);
        Due.totals(x, 1, 0, 0, 0, 0, 1);
    }

    private static void withoutADay() {
        Due.sentence("Without a day: day 100000 ... The total of a good and a kind without a day");
        MaterialPassports x = Scene.oneGood(8);
        x.change(0, 99999, 1, 9);
        Due.totals(x, 0, 0, 9, 0, 0, 0);
        x.change(0, 100000, 2, 10);
        Due.totals(x, 0, 0, 0, 10, 0, 0);
        x.change(0, 0, 3, 11);
        Due.totals(x, 0, 0, 0, 10, 0, 0);
    }

    private static void none() {
        Due.sentence("NONE when there are none such");
        MaterialPassports x = Scene.some();
        Due.totals(x, 0, 100, 0, 0, 310, 67);
        Due.totals(x, 2, 0, 0, 11, 0, 0);
        for (int kind = 0; kind < 5; kind++) {
            for (int wrong : Edge.outside(0, 2)) {
                Due.is("good " + wrong, x.total(wrong, kind), NONE);
            }
        }
        for (int good = 0; good < 3; good++) {
            for (int wrong : Edge.outside(0, 4)) {
                Due.is("kind " + wrong, x.total(good, wrong), NONE);
            }
        }
        MaterialPassports full = Scene.full();
        Due.is("good 7 of 8", full.total(7, 4), 107);
        Due.is("good 8 of 8", full.total(8, 4), NONE);
    }

    private static void changesNothing() {
        Due.sentence("NONE when there are none such ... A call that is refused changes nothing");
        Refused.none("good -1", Scene::some, x -> x.total(-1, 0));
        Refused.none("good 3", Scene::some, x -> x.total(3, 0));
        Refused.none("kind -1", Scene::some, x -> x.total(0, -1));
        Refused.none("kind 5", Scene::some, x -> x.total(0, 5));
    }

    private static void questionChangesNothing() {
        Due.sentence("Nothing is promised beyond the answers and state changes described above", "a question");
        Refused.changesNothing("total(0, 3)", Scene::some, x -> x.total(0, 3), 310);
    }
}
