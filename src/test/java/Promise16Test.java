import java.util.stream.LongStream;

/** Promise 16: swap. */
public final class Promise16Test {
    private static final int NONE = MaterialPassports.NONE;

    public static void main(String[] args) {
        greaterByOne();
        eachPart();
        theSame();
        less();
        zeroChangesNothing();
        asAChangeOfLastDay();
        withItsGrams();
        behindChangesOfThatDay();
        scoreOfItsGood();
        innerStays();
        noFormula();
        parts();
        kinds();
        twentyChanges();
        isAChangeMore();
        Due.end();
    }

    private static MaterialPassports scored(String formula, long... gramsByKind) {
        MaterialPassports x = Scene.oneGood(gramsByKind);
        Due.tell(x, formula);
        Due.is("score() > 0", x.score() > 0, true);
        return x;
    }

    private static void greaterByOne() {
        Due.sentence("Whether the score of its good would be greater ... Answers 1");
        MaterialPassports x = scored("k2", 1, 999);
        Due.is("from 0 to 1", x.swap(0, 2), 1);
        Due.is("scored(0)", x.scored(0), 1);
        Due.totals(x, 0, 0, 999, 1, 0, 0);
        Due.is("version", x.version(0), 3);
        MaterialPassports y = scored("0 k0 -", 1, 999);
        Due.is("from -1 to 0", y.swap(0, 2), 1);
        Due.is("scored(0)", y.scored(0), 0);
        MaterialPassports z = scored("k0 k1 - 1000 1000 * 1000 * 999 * *", 0, 1);
        Due.is("scored(0)", z.scored(0), -1000000000000L);
        Due.is("from the least to the greatest", z.swap(1, 0), 1);
        Due.is("scored(0)", z.scored(0), 1000000000000L);
    }

    private static void theSame() {
        Due.sentence("or 0 when not", "as great as before");
        Due.is("1 of 1001 grams", scored("k2", 1, 1000).swap(0, 2), 0);
        Due.is("its own kind", scored("k0", 1, 999).swap(0, 0), 0);
        Due.is("its own kind, all of it", scored("k0", 1).swap(0, 0), 0);
        Due.is("a part without grams", scored("k2", 0, 5).swap(0, 2), 0);
        Due.is("nothing at all", scored("k2", 0).swap(0, 2), 0);
        Due.is("kinds that do not count", scored("k2", 5, 5).swap(0, 1), 0);
        Due.is("always the same", scored("7", 5, 5).swap(0, 1), 0);
        Due.is("parts stay", scored("n", 5, 5).swap(0, 1), 0);
        // both are cut to the greatest value
        Due.is("cut", scored("k2 2 + 999999 * 999999 *", 1, 1).swap(0, 2), 0);
    }

    private static void less() {
        Due.sentence("or 0 when not", "less");
        Due.is("from 1 to 0", scored("k0", 1, 999).swap(0, 1), 0);
        Due.is("from 1000 to 0", scored("k0", 5).swap(0, 4), 0);
        Due.is("from 0 to -1", scored("0 k2 -", 1, 999).swap(0, 2), 0);
    }

    private static void zeroChangesNothing() {
        Due.sentence("if so, it is so", "not else");
        Refused.changesNothing("the same", Scene::some, x -> x.swap(4, 4), 0);
        Refused.changesNothing("less", Scene::some, x -> x.swap(1, 0), 0);
        Refused.changesNothing("no grams", Scene::some, x -> x.swap(3, 3), 0);
        MaterialPassports x = scored("k0", 1, 999);
        for (int i = 0; i < 50; i++) {
            Due.is("0 again and again", x.swap(0, 1), 0);
        }
        for (int i = 0; i < 20; i++) {
            Due.is("20 changes", x.change(0, 1, 1, 1), true);
        }
    }

    private static void asAChangeOfLastDay() {
        Due.sentence("as a change of day 100000");
        MaterialPassports x = scored("k1", 30, 10);
        Due.is("swap", x.swap(0, 1), 1);
        Due.totals(x, 0, 0, 40, 0, 0, 0);
        Due.is("day 100000", x.totalOn(0, 1, 100000), 40);
        Due.is("day 99999", x.totalOn(0, 1, 99999), 10);
        Due.is("day 99999", x.totalOn(0, 0, 99999), 30);
        Due.is("frees", x.frees(1, 1), 40);
        Due.is("again", x.swap(0, 1), 0);
    }

    private static void withItsGrams() {
        Due.sentence("with its grams");
        MaterialPassports x = scored("k4", 30, 70);
        x.change(0, 5, 2, 40);
        x.change(0, 99999, 3, 50);
        Due.is("swap", x.swap(0, 4), 1);
        Due.totals(x, 0, 0, 70, 0, 0, 50);
        Due.is("the day before", x.totalOn(0, 3, 99999), 50);
        MaterialPassports most = scored("k4", 1000000000L);
        Due.is("swap", most.swap(0, 4), 1);
        Due.totals(most, 0, 0, 0, 0, 0, 1000000000L);
    }

    private static void behindChangesOfThatDay() {
        Due.sentence("of the same day the one told last counts", "a swap too");
        MaterialPassports x = scored("k4", 30, 70);
        x.change(0, 100000, 3, 60);
        Due.is("swap", x.swap(0, 4), 1);
        Due.totals(x, 0, 0, 70, 0, 0, 60);
        x.change(0, 100000, 2, 65);
        Due.totals(x, 0, 0, 70, 65, 0, 0);
        Due.is("swap again", x.swap(0, 4), 1);
        Due.totals(x, 0, 0, 70, 0, 0, 65);
    }

    private static void scoreOfItsGood() {
        Due.sentence("the score of its good");
        MaterialPassports x = Scene.goods(2);
        x.part(0, 2, 10, 1);
        x.part(1, 1, 10, 1);
        x.into(0, 1);
        Due.score(x, "500 k0 - k2 +", 5);
        Due.is("good 1 would be less, good 0 too", x.swap(1, 0), 0);
        Due.is("good 1 would be greater", x.swap(1, 2), 1);
        Due.score(x, "k1 k1 * 0 k1 - 400 * + k3 +", 11);
        // of good 0 the half would be of kind 1: 250000 - 200000; of good 1 all: 1000000 - 400000
        Due.is("greater", x.swap(1, 1), 1);
        Due.is("versions", x.version(0) * 10 + x.version(1), 23);
        Due.score(x, "k4 600 min k4 *  k4 700 max 1000 * -", 11);
        // good 0: 500 * 500 - 700000; good 1: 600 * 1000 - 1000000; both were -700000
        Due.is("scored(0)", x.scored(0), -700000);
        Due.is("scored(1)", x.scored(1), -700000);
        Due.is("greater", x.swap(1, 4), 1);
        Due.is("scored(0)", x.scored(0), 250000 - 700000);
        Due.is("scored(1)", x.scored(1), 600000 - 1000000);
    }

    private static void innerStays() {
        Due.sentence("if a part were of another kind", "its inner good stays");
        MaterialPassports x = Scene.goods(2);
        x.part(0, 0, 10, 1);
        x.part(1, 1, 10, 1);
        x.into(0, 1);
        Due.score(x, "k2", 1);
        Due.is("swap", x.swap(0, 2), 1);
        Due.is("scored(0)", x.scored(0), 500);
        Due.totals(x, 0, 0, 10, 10, 0, 0);
    }

    private static void noFormula() {
        Due.sentence("NONE when ... there is no formula");
        Refused.none("no formula", () -> Scene.oneGood(5, 6), x -> x.swap(0, 1));
        Refused.none("a text not read", () -> {
            MaterialPassports x = Scene.oneGood(5, 6);
            Due.tell(x, "k1");
            return x;
        }, x -> x.swap(0, 1));
    }

    private static void parts() {
        Due.sentence("NONE when there are none such", "part");
        MaterialPassports x = scored("k3", 1, 1, 1);
        Due.is("part 0", x.swap(0, 3), 1);
        Due.is("part 2, the last", x.swap(2, 3), 1);
        for (int wrong : Edge.outside(0, 5)) {
            Refused.none("part " + wrong, Scene::some, y -> y.swap(wrong, 1));
        }
    }

    private static void kinds() {
        Due.sentence("NONE when there are none such", "kind");
        Due.is("kind 0", scored("k0", 0, 5).swap(1, 0), 1);
        Due.is("kind 1", scored("k1", 5, 0).swap(0, 1), 1);
        Due.is("kind 3", scored("k3", 5, 0).swap(0, 3), 1);
        Due.is("kind 4", scored("k4", 5, 0).swap(0, 4), 1);
        for (int wrong : Edge.outside(0, 4)) {
            Refused.none("kind " + wrong, Scene::some, y -> y.swap(0, wrong));
        }
    }

    private static MaterialPassports changed(int times) {
        MaterialPassports x = scored("k1", 5, 6);
        for (int i = 0; i < times; i++) {
            Due.is("change " + i, x.change(0, i, 2, 9), true);
        }
        return x;
    }

    private static void twentyChanges() {
        Due.sentence("NONE when ... or there are 20 changes");
        Due.is("18, greater", changed(18).swap(0, 1), 1);
        Due.is("19, greater", changed(19).swap(0, 1), 1);
        Due.is("19, the same", changed(19).swap(0, 2), 0);
        Due.is("19, less", changed(19).swap(1, 2), 0);
        Refused.none("20, greater", () -> changed(20), x -> x.swap(0, 1));
        Refused.none("20, the same", () -> changed(20), x -> x.swap(0, 2));
        Refused.none("20, less", () -> changed(20), x -> x.swap(1, 2));
        Refused.none("20, of other parts", Scene::full, x -> x.swap(23, 1));
        MaterialPassports x = changed(19);
        Due.is("the 20th", x.swap(0, 1), 1);
        Due.is("the 21st", x.swap(1, 2), NONE);
        Due.totals(x, 0, 0, 15, 0, 0, 0);
    }

    private static void isAChangeMore() {
        Due.sentence("it is so (a change more)");
        MaterialPassports x = changed(18);
        Due.is("the 19th", x.swap(0, 1), 1);
        Due.is("the 20th", x.change(0, 0, 3, 1), true);
        Due.is("the 21st", x.change(0, 0, 3, 1), false);
        MaterialPassports y = changed(19);
        Due.is("the 20th", y.swap(0, 1), 1);
        Due.is("the 21st", y.change(0, 0, 3, 1), false);
        MaterialPassports z = changed(19);
        Due.is("not greater", z.swap(0, 2), 0);
        Due.is("the 20th", z.change(0, 0, 3, 1), true);
    }

    private static void eachPart() {
        Due.sentence("if a part were of another kind ... if so, it is so", "each part, and no other");
        for (int first = 0; first <= 4; first += 4) {
            MaterialPassports x = Scene.goods(8);
            for (int number = 0; number < 24; number++) {
                x.part(number % 8, 0, 100 + number, 1);
            }
            Due.score(x, "k3", 1);
            long[] swapped = new long[8];
            for (int number = first; number < first + 20; number++) {
                int good = number % 8;
                Due.is("swap", x.swap(number, 3), 1);
                swapped[good] += 100 + number;
                for (int other = 0; other < 8; other++) {
                    Due.is("total(" + other + ", 3)", x.total(other, 3), swapped[other]);
                }
                Due.is("frees(3, 1)", x.frees(3, 1), LongStream.of(swapped).sum());
            }
        }
    }
}
