/** Promise 8: totalOn. */
public final class Promise08Test {
    private static final int NONE = MaterialPassports.NONE;

    public static void main(String[] args) {
        lastChangeNotOfALaterDay();
        innerOnThatDay();
        days();
        goodsAndKinds();
        questionChangesNothing();
        changesNothing();
        Due.end();
    }

    private static void lastChangeNotOfALaterDay() {
        Due.sentence("and a day ... on that day (by the last change that is not of a later day)");
        MaterialPassports x = Scene.oneGood(100);
        x.change(0, 100000, 0, 7);
        x.change(0, 50, 3, 400);
        x.change(0, 10, 2, 300);
        long[][] dayKindGrams = {
            {0, 0, 100}, {9, 0, 100}, {10, 2, 300}, {11, 2, 300}, {49, 2, 300},
            {50, 3, 400}, {51, 3, 400}, {99999, 3, 400}, {100000, 0, 7}};
        for (long[] row : dayKindGrams) {
            for (int kind = 0; kind < 5; kind++) {
                Due.is("totalOn(0, " + kind + ", " + row[0] + ")",
                        x.totalOn(0, kind, row[0]), kind == row[1] ? row[2] : 0);
            }
        }
        x.change(0, 0, 4, 1);
        Due.is("a change of day 0", x.totalOn(0, 4, 0), 1);
        Due.is("nothing is before it", x.totalOn(0, 0, 0), 0);
    }

    private static void innerOnThatDay() {
        Due.sentence("and for each of its parts with an inner good that good's total");
        MaterialPassports x = Scene.goods(3);
        x.part(0, 0, 1, 1);
        x.part(0, 3, 1000, 1);
        x.part(1, 1, 10, 1);
        x.part(2, 2, 100, 1);
        x.into(0, 1);
        x.into(1, 2);
        x.into(2, 2);
        x.change(3, 20, 4, 55);
        Due.is("the day before", x.totalOn(0, 2, 19), 200);
        Due.is("the day before", x.totalOn(0, 4, 19), 0);
        Due.is("the day", x.totalOn(0, 2, 20), 0);
        Due.is("the day", x.totalOn(0, 4, 20), 110);
        Due.is("the middle one", x.totalOn(1, 4, 20), 55);
        Due.is("the middle one before", x.totalOn(1, 2, 19), 100);
        Due.is("the inner good is there on day 0", x.totalOn(0, 1, 0), 10);
    }

    private static void days() {
        Due.sentence("The total on a day, 0 .. 100000; NONE likewise");
        MaterialPassports x = Scene.some();
        Due.is("day 0", x.totalOn(1, 1, 0), 50);
        Due.is("day 4", x.totalOn(1, 1, 4), 50);
        Due.is("day 5", x.totalOn(1, 4, 5), 60);
        Due.is("day 99999", x.totalOn(2, 3, 99999), 9);
        Due.is("day 100000", x.totalOn(2, 2, 100000), 11);
        for (long wrong : Edge.outsideLongs(0, 100000)) {
            for (int kind = 0; kind < 5; kind++) {
                Due.is("day " + wrong, x.totalOn(0, kind, wrong), NONE);
            }
        }
    }

    private static void goodsAndKinds() {
        Due.sentence("NONE likewise", "goods and kinds");
        MaterialPassports x = Scene.some();
        for (long day : Edge.insideLongs(0, 100000)) {
            Due.is("good 0, kind 0", x.totalOn(0, 0, day), 100);
            Due.is("good 0, kind 4", x.totalOn(0, 4, day), day < 5 ? 7 : 67);
            Due.is("good 2, kind 3", x.totalOn(2, 3, day), day < 100000 ? 9 : 0);
            for (int wrong : Edge.outside(0, 2)) {
                Due.is("good " + wrong, x.totalOn(wrong, 0, day), NONE);
            }
            for (int wrong : Edge.outside(0, 4)) {
                Due.is("kind " + wrong, x.totalOn(0, wrong, day), NONE);
            }
        }
    }

    private static void changesNothing() {
        Due.sentence("NONE likewise ... A call that is refused changes nothing");
        Refused.none("good -1", Scene::some, x -> x.totalOn(-1, 0, 0));
        Refused.none("good 3", Scene::some, x -> x.totalOn(3, 0, 0));
        Refused.none("kind -1", Scene::some, x -> x.totalOn(0, -1, 0));
        Refused.none("kind 5", Scene::some, x -> x.totalOn(0, 5, 0));
        Refused.none("day -1", Scene::some, x -> x.totalOn(0, 0, -1));
        Refused.none("day 100001", Scene::some, x -> x.totalOn(0, 0, 100001));
    }

    private static void questionChangesNothing() {
        Due.sentence("Nothing is promised beyond the answers and state changes described above", "a question");
        Refused.changesNothing("totalOn(2, 3, 5)", Scene::some, x -> x.totalOn(2, 3, 5), 9);
    }
}
