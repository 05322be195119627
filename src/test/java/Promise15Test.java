/** Promise 15: scored. */
public final class Promise15Test {
    private static final long BOUND = 1000000000000L;
    private static final String TOP = "1000 1000 * 1000 * 1000 *";
    private static final String BOTTOM = "0 1000 - 1000 * 1000 * 1000 *";
    // (10^6 - 1) * (10^6 + 1)
    private static final String BELOW_TOP = "999999 999999 2 + *";
    // 10001 * 99990001 is 10^12 + 1
    private static final String ABOVE_TOP = "10001 9999 10000 * 1 + *";

    public static void main(String[] args) {
        noFormula();
        noSuchGood();
        changesNothing();
        ofEachGood();
        questionChangesNothing();
        sharesDown();
        shareOfNothing();
        shareOfTheMost();
        sharesWithInner();
        sharesOfLastDay();
        ownParts();
        firstAndSecond();
        productsCut();
        productsThatWrap();
        sumsCut();
        differencesCut();
        eachCut();
        leastAndGreatest();
        Due.end();
    }

    private static void noFormula() {
        Due.sentence("Long.MIN_VALUE when there is no formula");
        MaterialPassports x = Scene.oneGood(1);
        Due.is("scored(0)", x.scored(0), Long.MIN_VALUE);
        Due.tell(x, "5");
        Due.is("before score()", x.scored(0), Long.MIN_VALUE);
        Due.score(x, " 6", -3);
        Due.is("not well", x.scored(0), Long.MIN_VALUE);
        Due.value(x, "0", 0);
    }

    private static void noSuchGood() {
        Due.sentence("Long.MIN_VALUE when ... or no such good");
        for (int count = 0; count <= 8; count++) {
            MaterialPassports x = Scene.goods(count);
            Due.score(x, "4", 1);
            for (int good = 0; good < count; good++) {
                Due.is("good " + good, x.scored(good), 4);
            }
            for (int wrong : Edge.outside(0, count - 1)) {
                Due.is("good " + wrong, x.scored(wrong), Long.MIN_VALUE);
            }
        }
    }

    private static void changesNothing() {
        Due.sentence("Long.MIN_VALUE ... A call that is refused changes nothing");
        Refused.changesNothing("good -1", Scene::some, x -> x.scored(-1), Long.MIN_VALUE);
        Refused.changesNothing("good 3", Scene::some, x -> x.scored(3), Long.MIN_VALUE);
        Refused.changesNothing("no formula", () -> Scene.oneGood(1), x -> x.scored(0), Long.MIN_VALUE);
    }

    private static void sharesDown() {
        Due.sentence("the share of a kind, in a thousand, down");
        Due.value(Scene.oneGood(1, 1), "k0", 500);
        Due.value(Scene.oneGood(1, 2), "k0", 333);
        Due.value(Scene.oneGood(1, 2), "k1", 666);
        Due.value(Scene.oneGood(1, 998), "k0", 1);
        Due.value(Scene.oneGood(1, 999), "k0", 1);
        Due.value(Scene.oneGood(1, 1000), "k0", 0);
        Due.value(Scene.oneGood(999, 1), "k0", 999);
        Due.value(Scene.oneGood(998, 1), "k0", 998);
        Due.value(Scene.oneGood(1000, 1), "k0", 999);
        Due.value(Scene.oneGood(0, 1), "k0", 0);
        Due.value(Scene.oneGood(1, 0), "k0", 1000);
        Due.value(Scene.oneGood(1000000000L, 0, 0, 0, 1), "k0", 999);
        Due.value(Scene.oneGood(1000000000L, 0, 0, 0, 1), "k4", 0);
    }

    private static void shareOfNothing() {
        Due.sentence("0 when there is nothing");
        for (int kind = 0; kind < 5; kind++) {
            Due.value(Scene.goods(1), "k" + kind, 0);
            Due.value(Scene.oneGood(0, 0, 0, 0, 0), "k" + kind, 0);
        }
        MaterialPassports x = Scene.goods(2);
        x.part(0, 0, 0, 1);
        x.part(1, 3, 0, 1);
        x.into(0, 1);
        Due.value(x, "k3", 0);
        x.change(1, 100000, 3, 1);
        Due.is("one gram", x.scored(0), 1000);
    }

    private static void shareOfTheMost() {
        Due.sentence("1000 times its total over that of all kinds", "the greatest totals");
        MaterialPassports x = Scene.goods(8);
        for (int number = 0; number < 24; number++) {
            x.part(number / 3, number % 3 == 0 ? 1 : 4, 1000000000L, 9);
            x.into(number, number / 3 + 1);
        }
        Due.is("total(0, 1)", x.total(0, 1), 3280000000000L);
        Due.is("total(0, 4)", x.total(0, 4), 6560000000000L);
        Due.value(x, "k1", 333);
        Due.value(x, "k4", 666);
        Due.value(x, "k0", 0);
    }

    private static void sharesWithInner() {
        Due.sentence("1000 times its total over that of all kinds", "with inner goods");
        MaterialPassports x = Scene.goods(2);
        x.part(0, 0, 1, 1);
        x.part(1, 2, 3, 1);
        Due.value(x, "k2", 0);
        x.into(0, 1);
        Due.value(x, "k2", 750);
        Due.value(x, "k0", 250);
        Due.is("the inner good", x.scored(1), 0);
    }

    private static void sharesOfLastDay() {
        Due.sentence("1000 times its total", "without a day");
        MaterialPassports x = Scene.oneGood(1, 1);
        x.change(0, 99999, 2, 3);
        Due.value(x, "k2", 750);
        x.change(0, 100000, 3, 4);
        Due.value(x, "k2", 0);
        Due.value(x, "k3", 800);
    }

    private static void ownParts() {
        Due.sentence("n (how many parts the good has itself)");
        MaterialPassports x = Scene.goods(2);
        Due.value(x, "n", 0);
        x.part(1, 0, 0, 0);
        Due.is("another good's part", x.scored(0), 0);
        x.part(0, 0, 0, 0);
        Due.is("a part without grams", x.scored(0), 1);
        x.into(1, 1);
        Due.is("an inner good's part", x.scored(0), 1);
        for (int number = 2; number < 24; number++) {
            x.part(0, 1, 1, 1);
        }
        Due.is("23 of 24", x.scored(0), 23);
        Due.is("one of 24", x.scored(1), 1);
        x.part(0, 1, 1, 1);
        Due.is("a refused part", x.scored(0), 23);
    }

    private static void firstAndSecond() {
        Due.sentence("of the two before them");
        MaterialPassports x = Scene.goods(1);
        Due.value(x, "9 7 -", 2);
        Due.value(x, "7 9 -", -2);
        Due.value(x, "1 2 3 - -", 2);
        Due.value(x, "1 2 - 3 -", -4);
        Due.value(x, "1 2 3 4 5 - * + max", 1);
        Due.value(x, "1 2 - 3 4 - *", 1);
        Due.value(x, "0 7 - 0 9 - max", -7);
        Due.value(x, "0 7 - 0 9 - min", -9);
    }

    private static String less(String words) {
        return "0 " + words + " -";
    }

    private static void valueIs(String words, long value) {
        Due.value(Scene.goods(1), words, value);
    }

    private static void productsCut() {
        Due.sentence("products are cut to -1000000000000 .. 1000000000000");
        valueIs(BELOW_TOP, BOUND - 1);
        valueIs(TOP, BOUND);
        valueIs(ABOVE_TOP, BOUND);
        valueIs("0 999999 - 999999 2 + *", 1 - BOUND);
        valueIs("999999 0 999999 2 + - *", 1 - BOUND);
        valueIs(BOTTOM, -BOUND);
        valueIs("0 10001 - 9999 10000 * 1 + *", -BOUND);
        valueIs("10001 0 9999 10000 * 1 + - *", -BOUND);
        valueIs("0 999999 - 0 999999 2 + - *", BOUND - 1);
        valueIs("0 10001 - 0 9999 10000 * 1 + - *", BOUND);
        valueIs(TOP + " 1 *", BOUND);
        valueIs(TOP + " 0 *", 0);
        valueIs("0 " + TOP + " *", 0);
        valueIs(TOP + " 0 1 - *", -BOUND);
        valueIs(BOTTOM + " 0 1 - *", BOUND);
    }

    private static void productsThatWrap() {
        Due.sentence("Its value are longs ... products are cut", "beyond the longs too");
        valueIs(TOP + " " + TOP + " *", BOUND);
        valueIs(TOP + " " + BOTTOM + " *", -BOUND);
        valueIs(BOTTOM + " " + TOP + " *", -BOUND);
        valueIs(BOTTOM + " " + BOTTOM + " *", BOUND);
        // 2^64, 2^63, -2^63 and -2^64
        valueIs("65536 65536 * 65536 65536 * *", BOUND);
        valueIs("65536 65536 * 65536 32768 * *", BOUND);
        valueIs("65536 65536 * 0 65536 32768 * - *", -BOUND);
        valueIs("65536 65536 * 0 65536 65536 * - *", -BOUND);
        // 2^64 + 2^32
        valueIs("65536 65536 * 65536 65536 * 1 + *", BOUND);
    }

    private static void sumsCut() {
        Due.sentence("sums ... are cut to -1000000000000 .. 1000000000000");
        valueIs(BELOW_TOP + " 0 +", BOUND - 1);
        valueIs(BELOW_TOP + " 1 +", BOUND);
        valueIs(BELOW_TOP + " 2 +", BOUND);
        valueIs(TOP + " " + TOP + " +", BOUND);
        valueIs(less(BELOW_TOP) + " 0 +", 1 - BOUND);
        valueIs(less(BELOW_TOP) + " 0 1 - +", -BOUND);
        valueIs(less(BELOW_TOP) + " 0 2 - +", -BOUND);
        valueIs(BOTTOM + " " + BOTTOM + " +", -BOUND);
        valueIs(TOP + " " + BOTTOM + " +", 0);
    }

    private static void differencesCut() {
        Due.sentence("sums ... are cut", "differences as sums with what is less than nothing");
        valueIs(BELOW_TOP + " 0 1 - -", BOUND);
        valueIs(BELOW_TOP + " 0 2 - -", BOUND);
        valueIs(TOP + " " + BOTTOM + " -", BOUND);
        valueIs(less(BELOW_TOP) + " 1 -", -BOUND);
        valueIs(less(BELOW_TOP) + " 2 -", -BOUND);
        valueIs(BOTTOM + " " + TOP + " -", -BOUND);
        valueIs(TOP + " " + TOP + " -", 0);
    }

    private static void eachCut() {
        Due.sentence("sums and products are cut to -1000000000000 .. 1000000000000, each");
        valueIs(ABOVE_TOP + " 1 -", BOUND - 1);
        valueIs(TOP + " 1 + 1 -", BOUND - 1);
        valueIs(TOP + " " + TOP + " + " + TOP + " -", 0);
        valueIs(BOTTOM + " 1 - 1 +", 1 - BOUND);
        valueIs(TOP + " 2 * " + TOP + " -", 0);
        valueIs(TOP + " " + TOP + " * " + BOTTOM + " +", 0);
    }

    private static void leastAndGreatest() {
        Due.sentence("min, max", "at the cuts");
        valueIs(TOP + " " + BOTTOM + " min", -BOUND);
        valueIs(TOP + " " + BOTTOM + " max", BOUND);
        valueIs(TOP + " " + BELOW_TOP + " min", BOUND - 1);
        valueIs(TOP + " " + BELOW_TOP + " max", BOUND);
    }

    private static void ofEachGood() {
        Due.sentence("The formula's value for a good", "each");
        MaterialPassports x = Scene.goods(8);
        for (int good = 0; good < 8; good++) {
            x.part(good, 0, 10, 1);
            x.part(good, 1, 1 + good, 1);
            x.part(good % 3, 2, 0, 1);
        }
        Due.score(x, "k1 10 * n +", 5);
        // 1 of 11 grams, 2 of 12, .. 8 of 18; five, five, four parts, then two each
        long[] due = {905, 1665, 2304, 2852, 3332, 3752, 4112, 4442};
        for (int good = 0; good < 8; good++) {
            Due.is("scored(" + good + ")", x.scored(good), due[good]);
        }
    }

    private static void questionChangesNothing() {
        Due.sentence("Nothing is promised beyond the answers and state changes described above", "a question");
        Refused.changesNothing("scored(0)", Scene::some, x -> x.scored(0), 646);
    }
}
