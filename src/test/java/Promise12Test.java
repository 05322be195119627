/** Promise 12: seen. */
public final class Promise12Test {
    private static final int NONE = MaterialPassports.NONE;
    private static final int MASKED = -2;

    public static void main(String[] args) {
        withARight();
        masked();
        maskedOfAll();
        notOfInner();
        leastLifeIsNotMasked();
        withoutADay();
        byNumbers();
        persons();
        goods();
        parts();
        what();
        questionChangesNothing();
        changesNothing();
        Due.end();
    }

    /** Good 0: parts 0, 2, 3; good 1: part 1. */
    private static MaterialPassports twoGoods() {
        MaterialPassports x = Scene.goods(2);
        x.part(0, 1, 10, 5);
        x.part(1, 1, 1000, 6);
        x.part(0, 2, 20, 7);
        x.part(0, 1, 30, 8);
        return x;
    }

    private static void withARight() {
        Due.sentence("What a person sees of the k-th part of a good ... what = 0 its kind, 1 grams, 2 its life");
        MaterialPassports x = twoGoods();
        x.right(7, 0, true);
        Due.sees(x, 7, 0, 0, 1, 10, 5);
        Due.sees(x, 7, 0, 1, 2, 20, 7);
        Due.sees(x, 7, 0, 2, 1, 30, 8);
        Due.sees(x, 7, 1, 0, 1, 1000, MASKED);
    }

    private static void masked() {
        Due.sentence(
                "a part is MASKED: its grams are told as of all parts of the good of its kind together, its life is not");
        MaterialPassports x = twoGoods();
        Due.sees(x, 3, 0, 0, 1, 40, MASKED);
        Due.sees(x, 3, 0, 1, 2, 20, MASKED);
        Due.sees(x, 3, 0, 2, 1, 40, MASKED);
        Due.sees(x, 3, 1, 0, 1, 1000, MASKED);
    }

    private static void maskedOfAll() {
        Due.sentence("as of all parts of the good of its kind together", "the most and the least");
        MaterialPassports x = Scene.goods(2);
        x.part(0, 3, 0, 0);
        Due.sees(x, 0, 0, 0, 3, 0, MASKED);
        for (int number = 1; number < 24; number++) {
            x.part(1, 4, 1000000000L, 200);
        }
        Due.sees(x, 0, 1, 0, 4, 23000000000L, MASKED);
        Due.sees(x, 0, 1, 22, 4, 23000000000L, MASKED);
    }

    private static void notOfInner() {
        Due.sentence("its own", "not what its inner goods have");
        MaterialPassports x = twoGoods();
        x.into(0, 1);
        Due.sees(x, 3, 0, 0, 1, 40, MASKED);
        x.right(3, 0, true);
        Due.sees(x, 3, 0, 0, 1, 10, 5);
        Due.sees(x, 3, 0, 3, NONE, NONE, NONE);
        Due.sees(x, 3, 1, 0, 1, 1000, MASKED);
    }

    private static void leastLifeIsNotMasked() {
        Due.sentence("-2 for what is masked ... Without it a part is MASKED");
        MaterialPassports x = Scene.goods(1);
        x.part(0, 0, 0, 0);
        x.part(0, 4, 1000000000L, 200);
        Due.sees(x, 0, 0, 0, 0, 0, MASKED);
        Due.sees(x, 0, 0, 1, 4, 1000000000L, MASKED);
        x.right(0, 0, true);
        Due.sees(x, 0, 0, 0, 0, 0, 0);
        Due.sees(x, 0, 0, 1, 4, 1000000000L, 200);
    }

    private static void withoutADay() {
        Due.sentence("without a day");
        MaterialPassports x = twoGoods();
        x.change(0, 100000, 2, 11);
        x.change(3, 99999, 0, 12);
        x.life(0, 150);
        Due.sees(x, 3, 0, 0, 2, 31, MASKED);
        Due.sees(x, 3, 0, 1, 2, 31, MASKED);
        Due.sees(x, 3, 0, 2, 0, 12, MASKED);
        x.right(3, 0, true);
        Due.sees(x, 3, 0, 0, 2, 11, 150);
        Due.sees(x, 3, 0, 1, 2, 20, 7);
        Due.sees(x, 3, 0, 2, 0, 12, 8);
    }

    private static void byNumbers() {
        Due.sentence("the k-th part of a good (its own, by numbers, from 0 on)");
        MaterialPassports x = Scene.goods(8);
        for (int number = 0; number < 24; number++) {
            x.part(number % 2 == 0 ? 7 : 0, number % 5, number, number);
        }
        x.right(7, 7, true);
        for (int k = 0; k < 12; k++) {
            int number = 2 * k;
            Due.sees(x, 7, 7, k, number % 5, number, number);
        }
        Due.sees(x, 7, 7, 12, NONE, NONE, NONE);
        Due.sees(x, 7, 0, 12, NONE, NONE, NONE);
    }

    private static void persons() {
        Due.sentence("NONE when there are none such", "person");
        MaterialPassports x = twoGoods();
        for (int person = 0; person < 8; person++) {
            Due.sees(x, person, 0, 0, 1, 40, MASKED, NONE);
        }
        for (int wrong : Edge.outside(0, 7)) {
            Due.sees(x, wrong, 0, 0, NONE, NONE, NONE, NONE);
        }
    }

    private static void goods() {
        Due.sentence("NONE when there are none such", "good");
        MaterialPassports x = twoGoods();
        Due.sees(x, 0, 1, 0, 1, 1000, MASKED, NONE);
        for (int wrong : Edge.outside(0, 1)) {
            Due.sees(x, 0, wrong, 0, NONE, NONE, NONE, NONE);
        }
        MaterialPassports full = Scene.full();
        Due.sees(full, 7, 7, 0, 4, 107, 7);
        Due.sees(full, 7, 8, 0, NONE, NONE, NONE);
        Due.sees(full, 6, 8, 0, NONE, NONE, NONE);
    }

    private static void parts() {
        Due.sentence("NONE when there are none such", "the k-th part");
        MaterialPassports x = twoGoods();
        for (int turn = 0; turn < 2; turn++) {
            Due.is("k 0", x.seen(0, 0, 0, 0), 1);
            Due.is("k 2, the last", x.seen(0, 0, 2, 0), 1);
            for (int wrong : Edge.outside(0, 2)) {
                Due.sees(x, 0, 0, wrong, NONE, NONE, NONE, NONE);
            }
            Due.sees(x, 0, 1, 1, NONE, NONE, NONE, NONE);
            x.right(0, 0, true);
        }
        MaterialPassports without = Scene.goods(1);
        Due.sees(without, 0, 0, 0, NONE, NONE, NONE, NONE);
        for (int number = 0; number < 24; number++) {
            without.part(0, 0, 1, 1);
        }
        Due.sees(without, 0, 0, 23, 0, 24, MASKED, NONE);
        Due.sees(without, 0, 0, 24, NONE, NONE, NONE, NONE);
    }

    private static void what() {
        Due.sentence("NONE when there are none such", "what");
        MaterialPassports x = twoGoods();
        for (int turn = 0; turn < 2; turn++) {
            for (int wrong : Edge.outside(0, 2)) {
                Due.is("what " + wrong, x.seen(0, 0, 0, wrong), NONE);
            }
            x.right(0, 0, true);
        }
    }

    private static void changesNothing() {
        Due.sentence("NONE when there are none such ... A call that is refused changes nothing");
        Refused.none("person 8", Scene::some, x -> x.seen(8, 0, 0, 1));
        Refused.none("good 3", Scene::some, x -> x.seen(0, 3, 0, 1));
        Refused.none("k 3", Scene::some, x -> x.seen(0, 0, 3, 1));
        Refused.none("what 3", Scene::some, x -> x.seen(0, 0, 0, 3));
        Refused.changesNothing("masked", Scene::some, x -> x.seen(0, 0, 0, 2), MASKED);
    }

    private static void questionChangesNothing() {
        Due.sentence("Nothing is promised beyond the answers and state changes described above", "a question");
        Refused.changesNothing("seen(7, 0, 0, 2)", Scene::some, x -> x.seen(7, 0, 0, 2), 10);
        Refused.changesNothing("seen(0, 0, 0, 1)", Scene::some, x -> x.seen(0, 0, 0, 1), 100);
    }
}
