/** Promises 11 and 12: rights, and what persons see by them. */
public final class SeenTest {
    private static final int NONE = MaterialPassports.NONE;
    private static final int MASKED = -2;

    public static void main(String[] args) {
        rights();
        masked();
        ownPartsAlone();
        byLastDay();
        allParts();
        wrong();
        Due.end();
    }

    /** Good 0: parts 0, 2, 3; good 1: part 1. */
    private static MaterialPassports twoGoods() {
        MaterialPassports x = Due.withGoods(2);
        x.part(0, 1, 10, 5);
        x.part(1, 1, 1000, 6);
        x.part(0, 2, 20, 7);
        x.part(0, 1, 30, 8);
        return x;
    }

    private static void sees(MaterialPassports x, int person, int good, int k, long... due) {
        for (int what = 0; what < 3; what++) {
            String call = "seen(" + person + ", " + good + ", " + k + ", " + what + ")";
            Due.is(call, x.seen(person, good, k, what), due[what]);
        }
    }

    private static void rights() {
        MaterialPassports x = twoGoods();
        Due.is("right", x.right(7, 0, true), true);
        sees(x, 7, 0, 0, 1, 10, 5);
        sees(x, 7, 0, 1, 2, 20, 7);
        sees(x, 7, 0, 2, 1, 30, 8);
        sees(x, 6, 0, 0, 1, 40, MASKED);
        sees(x, 7, 1, 0, 1, 1000, MASKED);
        Due.is("the same again", x.right(7, 0, true), true);
        sees(x, 7, 0, 0, 1, 10, 5);
        Due.is("off", x.right(7, 0, false), true);
        sees(x, 7, 0, 0, 1, 40, MASKED);
        Due.is("off again", x.right(7, 0, false), true);
        Due.is("person 0", x.right(0, 1, true), true);
        sees(x, 0, 1, 0, 1, 1000, 6);
        sees(x, 1, 1, 0, 1, 1000, MASKED);
        sees(x, 0, 0, 0, 1, 40, MASKED);
        Due.is("person -1", x.right(-1, 0, true), false);
        Due.is("person 8", x.right(8, 0, true), false);
        Due.is("good -1", x.right(1, -1, true), false);
        Due.is("good 2", x.right(0, 2, true), false);
        Due.is("good 8", x.right(0, 8, true), false);
        for (int person = 1; person < 8; person++) {
            Due.is("refused rights", x.seen(person, 0, 0, 2), MASKED);
            Due.is("refused rights", x.seen(person, 1, 0, 2), MASKED);
        }
        Due.is("a new good", x.good(), 2);
        x.part(2, 0, 4, 4);
        sees(x, 0, 2, 0, 0, 4, MASKED);
    }

    private static void masked() {
        MaterialPassports x = twoGoods();
        sees(x, 3, 0, 0, 1, 40, MASKED);
        sees(x, 3, 0, 1, 2, 20, MASKED);
        sees(x, 3, 0, 2, 1, 40, MASKED);
        sees(x, 3, 1, 0, 1, 1000, MASKED);
    }

    private static void ownPartsAlone() {
        MaterialPassports x = twoGoods();
        x.into(0, 1);
        sees(x, 3, 0, 0, 1, 40, MASKED);
        x.right(3, 0, true);
        sees(x, 3, 0, 0, 1, 10, 5);
        Due.is("no inner parts", x.seen(3, 0, 3, 0), NONE);
        sees(x, 3, 1, 0, 1, 1000, MASKED);
    }

    private static void byLastDay() {
        MaterialPassports x = twoGoods();
        x.change(0, 100000, 2, 11);
        x.change(3, 40, 0, 12);
        x.life(0, 150);
        sees(x, 3, 0, 0, 2, 31, MASKED);
        sees(x, 3, 0, 2, 0, 12, MASKED);
        x.right(3, 0, true);
        sees(x, 3, 0, 0, 2, 11, 150);
        sees(x, 3, 0, 1, 2, 20, 7);
        sees(x, 3, 0, 2, 0, 12, 8);
    }

    private static void allParts() {
        MaterialPassports x = Due.withGoods(8);
        for (int number = 0; number < 24; number++) {
            Due.is("part", x.part(7, number % 2, number, number), number);
        }
        sees(x, 7, 7, 23, 1, 144, MASKED);
        sees(x, 7, 7, 0, 0, 132, MASKED);
        x.right(7, 7, true);
        sees(x, 7, 7, 23, 1, 23, 23);
        Due.is("k 24", x.seen(7, 7, 24, 0), NONE);
        Due.is("a good without parts", x.seen(7, 0, 0, 0), NONE);
    }

    private static void wrong() {
        MaterialPassports x = twoGoods();
        for (int turn = 0; turn < 2; turn++) {
            for (int what = 0; what < 3; what++) {
                Due.is("person -1", x.seen(-1, 0, 0, what), NONE);
                Due.is("person 8", x.seen(8, 0, 0, what), NONE);
                Due.is("good -1", x.seen(0, -1, 0, what), NONE);
                Due.is("good 2", x.seen(0, 2, 0, what), NONE);
                Due.is("k -1", x.seen(0, 0, -1, what), NONE);
                Due.is("k 3", x.seen(0, 0, 3, what), NONE);
                Due.is("k of MAX_VALUE", x.seen(0, 0, Integer.MAX_VALUE, what), NONE);
            }
            Due.is("what -1", x.seen(0, 0, 0, -1), NONE);
            Due.is("what 3", x.seen(0, 0, 0, 3), NONE);
            x.right(0, 0, true);
        }
    }
}
