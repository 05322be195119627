/** Promise 3: part. */
public final class Promise03Test {
    private static final int NONE = MaterialPassports.NONE;
    private static final long MOST_GRAMS = 1000000000L;

    public static void main(String[] args) {
        numbers();
        ofItsGood();
        newPartHasNothingElse();
        twentyFourOfOneGood();
        twentyFourOfAllGoods();
        twentyFifthChangesNothing();
        goods();
        kinds();
        grams();
        lives();
        refusedTakesNoNumber();
        Due.end();
    }

    private static void numbers() {
        Due.sentence("Answers its number ... PARTS are numbered from 0 on");
        MaterialPassports x = Scene.goods(3);
        Due.is("first", x.part(2, 0, 1, 1), 0);
        Due.is("of another good", x.part(0, 0, 2, 1), 1);
        Due.is("of the same kind and good", x.part(0, 0, 2, 1), 2);
        Due.totals(x, 0, 4, 0, 0, 0, 0);
        Due.totals(x, 2, 1, 0, 0, 0, 0);
    }

    private static void twentyFourOfOneGood() {
        Due.sentence("NONE when there are 24");
        MaterialPassports x = Scene.goods(1);
        for (int number = 0; number < 24; number++) {
            Due.is("part " + number, x.part(0, 3, MOST_GRAMS, 200), number);
        }
        Due.is("25th part", x.part(0, 3, 1, 1), NONE);
        Due.is("25th part again", x.part(0, 3, 1, 1), NONE);
        Due.totals(x, 0, 0, 0, 0, 24 * MOST_GRAMS, 0);
        Due.is("version", x.version(0), 24);
        Due.is("the last part's life", x.life(23, 0), true);
        Due.is("of a 25th part", x.life(24, 0), false);
    }

    private static void twentyFourOfAllGoods() {
        Due.sentence("PARTS are numbered from 0 on, 24 at most");
        MaterialPassports x = Scene.goods(8);
        for (int number = 0; number < 24; number++) {
            Due.is("part " + number, x.part(number % 7, number % 5, number, number), number);
        }
        for (int good = 0; good < 8; good++) {
            Due.is("25th part", x.part(good, 0, 1, 1), NONE);
        }
        Due.is("the last part is of good 2", x.total(2, 3), 23);
        Due.is("a good without parts", x.version(7), 0);
    }

    private static void twentyFifthChangesNothing() {
        Due.sentence("NONE when there are 24 ... A call that is refused changes nothing");
        Refused.none("25th part", Scene::full, x -> x.part(0, 0, 1, 1));
        Refused.none("25th part of the last good", Scene::full, x -> x.part(7, 4, 0, 0));
    }

    private static void goods() {
        Due.sentence("One more part of a good ... or these are not such", "good");
        for (int count = 1; count <= 8; count++) {
            MaterialPassports x = Scene.goods(count);
            Due.is("good -1", x.part(-1, 0, 1, 1), NONE);
            Due.is("good " + count, x.part(count, 0, 1, 1), NONE);
            Due.is("good 0", x.part(0, 0, 1, 1), 0);
            Due.is("good " + (count - 1), x.part(count - 1, 0, 1, 1), 1);
        }
        for (int wrong : Edge.outside(0, 2)) {
            Refused.none("good " + wrong, Scene::some, x -> x.part(wrong, 0, 1, 1));
        }
    }

    private static void kinds() {
        Due.sentence("of a KIND 0 .. 4 ... or these are not such");
        for (int kind = 0; kind <= 4; kind++) {
            MaterialPassports x = Scene.goods(1);
            Due.is("kind " + kind, x.part(0, kind, 5, 1), 0);
            Due.is("seen", x.seen(0, 0, 0, 0), kind);
            Due.is("total", x.total(0, kind), 5);
        }
        for (int wrong : Edge.outside(0, 4)) {
            Refused.none("kind " + wrong, Scene::some, x -> x.part(0, wrong, 1, 1));
        }
    }

    private static void grams() {
        Due.sentence("of grams ... grams 0 .. 1000000000 ... or these are not such");
        for (long grams : Edge.insideLongs(0, MOST_GRAMS)) {
            MaterialPassports x = Scene.goods(1);
            Due.is("grams " + grams, x.part(0, 2, grams, 1), 0);
            Due.is("total", x.total(0, 2), grams);
            Due.is("version", x.version(0), 1);
        }
        for (long wrong : Edge.outsideLongs(0, MOST_GRAMS)) {
            Refused.none("grams " + wrong, Scene::some, x -> x.part(0, 0, wrong, 1));
        }
    }

    private static void lives() {
        Due.sentence("with a LIFE in years ... life 0 .. 200 ... or these are not such");
        for (int life : Edge.inside(0, 200)) {
            MaterialPassports x = Scene.goods(1);
            Due.is("life " + life, x.part(0, 2, 5, life), 0);
            Due.is("frees", x.frees(2, life), 5);
            x.right(0, 0, true);
            Due.is("seen", x.seen(0, 0, 0, 2), life);
        }
        for (int wrong : Edge.outside(0, 200)) {
            Refused.none("life " + wrong, Scene::some, x -> x.part(0, 0, 1, wrong));
        }
    }

    private static void refusedTakesNoNumber() {
        Due.sentence("A call that is refused changes nothing", "the next part's number");
        MaterialPassports x = Scene.goods(1);
        for (int number = 0; number < 24; number++) {
            Due.is("good", x.part(1, 0, 1, 1), NONE);
            Due.is("kind", x.part(0, 5, 1, 1), NONE);
            Due.is("grams", x.part(0, 0, -1, 1), NONE);
            Due.is("life", x.part(0, 0, 1, 201), NONE);
            Due.is("part", x.part(0, 0, 1, 1), number);
        }
        Due.is("version", x.version(0), 24);
    }

    private static void ofItsGood() {
        Due.sentence("One more part of a good ... each of a good");
        for (int turn = 1; turn < 8; turn += 2) {
            MaterialPassports x = Scene.goods(8);
            int[] own = new int[8];
            for (int number = 0; number < 24; number++) {
                int good = number * turn % 8;
                Due.is("part", x.part(good, number % 5, 100 + number, number), number);
                Due.is("version(" + good + ")", x.version(good), own[good] + 1);
                x.right(0, good, true);
                Due.sees(x, 0, good, own[good], number % 5, 100 + number, number);
                own[good]++;
                Due.is("no more parts", x.seen(0, good, own[good], 0), NONE);
            }
        }
    }

    private static void newPartHasNothingElse() {
        Due.sentence("One more part of a good", "without an inner good and changes");
        MaterialPassports x = Scene.some();
        Due.is("part", x.part(2, 1, 40, 3), 6);
        Due.totals(x, 2, 0, 40, 11, 0, 0);
        Due.is("totalOn(2, 1, 0)", x.totalOn(2, 1, 0), 40);
        Due.is("frees(1, 3)", x.frees(1, 3), 40);
        Due.is("into", x.into(6, 0), true);
        Due.totals(x, 2, 100, 40, 11, 310, 67);
    }
}
