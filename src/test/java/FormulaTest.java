/** Promises 13 to 16: the text, the formula, scores and swaps. */
public final class FormulaTest {
    private static final int NONE = MaterialPassports.NONE;
    private static final long BOUND = 1000000000000L;
    // 999999 * 999999 * 999999, which is cut
    private static final String HUGE = "999999 999999 * 999999 *";

    public static void main(String[] args) {
        units();
        words();
        notWell();
        formulaStays();
        longestText();
        shares();
        ownParts();
        cuts();
        scoredWrong();
        swapBetters();
        swapOnLastDay();
        swapWithInner();
        swapRefused();
        Due.end();
    }

    private static void units() {
        MaterialPassports x = Due.withGoods(1);
        int[] wrong = {-1, 256, 304, Integer.MIN_VALUE, Integer.MAX_VALUE};
        for (int u : wrong) {
            Due.is("unit(" + u + ")", x.unit(u), false);
        }
        Due.is("score() of nothing", x.score(), -1);
        Due.is("unit(0)", x.unit(0), true);
        Due.is("score() of byte 0", x.score(), -1);
        Due.is("unit(255)", x.unit(255), true);
        Due.is("score() of byte 255", x.score(), -1);
        for (int i = 0; i < 300; i++) {
            Due.is("unit " + i, x.unit(i == 299 ? '7' : ' '), true);
        }
        Due.is("301st unit", x.unit('8'), false);
        Due.is("score() of 300 bytes", x.score(), 1);
        Due.is("scored", x.scored(0), 7);
        Due.is("the text is empty then", x.unit('5'), true);
        Due.is("score()", x.score(), 1);
        Due.is("scored", x.scored(0), 5);
    }

    private static void words() {
        MaterialPassports x = Due.withGoods(1);
        x.part(0, 3, 5, 5);
        well(x, "0", 1, 0);
        well(x, "000000", 1, 0);
        well(x, "000012", 1, 12);
        well(x, "999999", 1, 999999);
        well(x, "\n 4\n\n5 \n+ ", 3, 9);
        well(x, "k0", 1, 0);
        well(x, "k3", 1, 1000);
        well(x, "k4", 1, 0);
        well(x, "n", 1, 1);
        well(x, "7 9 +", 3, 16);
        well(x, "7 9 -", 3, -2);
        well(x, "7 9 *", 3, 63);
        well(x, "7 9 min", 3, 7);
        well(x, "9 7 min", 3, 7);
        well(x, "7 9 max", 3, 9);
        well(x, "9 7 max", 3, 9);
        well(x, "0 7 - 0 9 - max", 7, -7);
        well(x, "1 2 3 4 5 - * + max", 9, 1);
        well(x, "1 2 - 3 4 - *", 7, 1);
        String[] none = {"1234567", "0000001", "k5", "k9", "k/", "k", "k00", "K0", "N", "nn", "n0", "++", "/",
            "1+", "+1", "-1", "12a", "1a", "a1", "mi", "mix", "man", "mins", "min1", "MIN", "ma", "maxx", "amx",
            "k\0", "\t", "\r", "1\t", "\u00b2", "\u00ff", "m", "kk", "k-1"};
        for (String word : none) {
            MaterialPassports fresh = Due.withGoods(1);
            Due.score(fresh, "6", 1);
            Due.score(fresh, word, -1);
            Due.score(fresh, "1 2 " + word + " +", -3);
            Due.is("the formula stayed", fresh.scored(0), 6);
        }
    }

    private static void well(MaterialPassports x, String text, int words, long value) {
        Due.score(x, text, words);
        Due.is("scored(0) by '" + text + "'", x.scored(0), value);
    }

    private static void notWell() {
        MaterialPassports x = Due.withGoods(1);
        Due.score(x, "", -1);
        Due.score(x, " \n ", -1);
        Due.score(x, "+", -1);
        Due.score(x, "1 +", -2);
        Due.score(x, "1 max", -2);
        Due.score(x, "1 2 + *", -4);
        Due.score(x, "1 2", -3);
        Due.score(x, "1 2 3 +", -5);
        Due.score(x, "1 2 3", -4);
        Due.score(x, "+ x", -1);
        Due.score(x, "x +", -1);
        Due.score(x, "1 + x", -2);
        Due.score(x, "1 x +", -2);
        Due.score(x, "1 2 + x", -4);
        Due.is("no formula", x.scored(0), Long.MIN_VALUE);
    }

    private static void formulaStays() {
        MaterialPassports x = Due.withGoods(1);
        Due.score(x, "3 4 *", 3);
        Due.score(x, "5 6 + 7", -5);
        Due.is("scored", x.scored(0), 12);
        Due.score(x, "", -1);
        Due.is("scored", x.scored(0), 12);
        Due.tell(x, "8 9");
        Due.is("a text that is not read yet", x.scored(0), 12);
        Due.score(x, " -", 3);
        Due.is("scored", x.scored(0), -1);
        Due.score(x, "2", 1);
        Due.is("a shorter formula", x.scored(0), 2);
    }

    private static void longestText() {
        Due.score(Due.withGoods(1), "1 ".repeat(150), -151);
        Due.score(Due.withGoods(1), "1 ".repeat(74) + "+ ".repeat(76), -1 - 147);
        Due.score(Due.withGoods(1), "1".repeat(300), -1);
        MaterialPassports x = Due.withGoods(1);
        Due.score(x, "1 ".repeat(75) + "+ ".repeat(74), 149);
        Due.is("75 ones", x.scored(0), 75);
    }

    private static void shares() {
        MaterialPassports x = Due.withGoods(3);
        x.part(0, 0, 1, 1);
        x.part(0, 1, 2, 1);
        x.part(0, 4, 4, 1);
        x.part(1, 2, 3, 1);
        x.part(2, 2, 0, 1);
        value(x, "k0", 142, 0, 0);
        value(x, "k1", 285, 0, 0);
        value(x, "k2", 0, 1000, 0);
        value(x, "k3", 0, 0, 0);
        value(x, "k4", 571, 0, 0);
        x.into(2, 1);
        value(x, "k0", 100, 0, 0);
        value(x, "k2", 300, 1000, 0);
        x.change(0, 100000, 3, 2);
        value(x, "k3", 181, 0, 0);
        value(x, "k0", 0, 0, 0);
        x.change(2, 1, 4, 1000000000L);
        value(x, "k4", 999, 0, 0);
    }

    private static void value(MaterialPassports x, String text, long... byGood) {
        Due.score(x, text, 1);
        for (int good = 0; good < byGood.length; good++) {
            Due.is("scored(" + good + ") by " + text, x.scored(good), byGood[good]);
        }
    }

    private static void ownParts() {
        MaterialPassports x = Due.withGoods(3);
        x.part(0, 0, 1, 1);
        x.part(0, 0, 0, 1);
        x.part(1, 0, 1, 1);
        x.into(0, 1);
        value(x, "n", 2, 1, 0);
        x.part(1, 4, 9, 9);
        value(x, "n", 2, 2, 0);
    }

    private static void cuts() {
        cut("999999 999999 *", 999998000001L);
        cut(HUGE, BOUND);
        cut("999999 999999 * 1 *", 999998000001L);
        cut("999999 999999 * 999999 + 999999 +", 999999999999L);
        cut("999999 999999 * 999999 + 999999 + 1 +", BOUND);
        cut("999999 999999 * 999999 + 999999 + 2 +", BOUND);
        cut("0 1 - " + HUGE + " *", -BOUND);
        cut(HUGE + " " + HUGE + " *", BOUND);
        cut("0 " + HUGE + " - " + HUGE + " *", -BOUND);
        cut("0 " + HUGE + " - 0 " + HUGE + " - *", BOUND);
        cut(HUGE + " " + HUGE + " +", BOUND);
        cut(HUGE + " " + HUGE + " + 1 -", BOUND - 1);
        cut("0 " + HUGE + " - 1 -", -BOUND);
        cut("0 " + HUGE + " - 1 - 1 +", 1 - BOUND);
        cut(HUGE + " 0 1 - -", BOUND);
        cut(HUGE + " 0 *", 0);
        cut("0 " + HUGE + " *", 0);
        cut("500000 2000 * 1000 *", BOUND);
        cut("500000 1999 * 1000 * 500000 1000 * +", 1000000000000L);
        cut("0 1000 - 500000 * 2000 *", -BOUND);
        cut("333333 300000 * 10 *", 999999000000L);
        cut("333333 300000 * 11 *", BOUND);
        cut("0 11 - 333333 300000 * *", -BOUND);
    }

    private static void cut(String text, long value) {
        MaterialPassports x = Due.withGoods(1);
        Due.score(x, text, text.split(" ").length);
        Due.is("scored(0) by '" + text + "'", x.scored(0), value);
    }

    private static void scoredWrong() {
        MaterialPassports x = Due.withGoods(1);
        Due.is("no formula", x.scored(0), Long.MIN_VALUE);
        Due.score(x, "4", 1);
        Due.is("good 0", x.scored(0), 4);
        Due.is("good -1", x.scored(-1), Long.MIN_VALUE);
        Due.is("good 1", x.scored(1), Long.MIN_VALUE);
        Due.is("good 8", x.scored(8), Long.MIN_VALUE);
    }

    private static void swapBetters() {
        MaterialPassports x = Due.withGoods(1);
        x.part(0, 0, 30, 1);
        x.part(0, 1, 10, 1);
        Due.score(x, "k1", 1);
        Due.is("to the same kind", x.swap(1, 1), 0);
        Due.is("to a worse kind", x.swap(1, 2), 0);
        Due.is("to no better kind", x.swap(0, 3), 0);
        Due.is("the 0s changed nothing", x.total(0, 0) * 100 + x.total(0, 1), 3010);
        Due.is("nor the version", x.version(0), 2);
        Due.is("to a better kind", x.swap(0, 1), 1);
        Due.is("it is so", x.total(0, 1), 40);
        Due.is("it is so", x.total(0, 0), 0);
        Due.is("scored", x.scored(0), 1000);
        Due.is("version", x.version(0), 3);
        Due.is("again", x.swap(0, 1), 0);
        Due.is("from day 100000 on", x.totalOn(0, 0, 99999), 30);
    }

    private static void swapOnLastDay() {
        MaterialPassports x = Due.withGoods(1);
        x.part(0, 0, 30, 1);
        x.part(0, 1, 70, 1);
        x.change(0, 5, 2, 40);
        x.change(0, 100000, 3, 50);
        Due.score(x, "k4", 1);
        Due.is("swap", x.swap(0, 4), 1);
        Due.is("its grams of day 100000", x.total(0, 4), 50);
        Due.is("told last of its day", x.total(0, 3), 0);
        Due.is("earlier days", x.totalOn(0, 2, 99999), 40);
        for (int i = 3; i < 20; i++) {
            Due.is("17 changes more", x.change(1, 0, 1, i), true);
        }
        Due.is("the swap was a change", x.change(1, 0, 1, 1), false);
    }

    private static void swapWithInner() {
        MaterialPassports x = Due.withGoods(2);
        x.part(0, 0, 10, 1);
        x.part(1, 1, 10, 1);
        x.part(1, 0, 0, 1);
        x.into(0, 1);
        Due.score(x, "k1", 1);
        Due.is("the inner good's materials stay", x.swap(0, 1), 1);
        Due.is("score", x.scored(0), 1000);
        Due.score(x, "500 k0 min", 3);
        Due.is("by the score of its own good", x.swap(1, 0), 1);
        Due.is("outer", x.scored(0), 500);
        Due.is("versions", x.version(0) * 10 + x.version(1), 33);
        Due.score(x, "k2", 1);
        Due.is("a part without grams", x.swap(2, 2), 0);
    }

    private static void swapRefused() {
        MaterialPassports x = Due.withGoods(1);
        x.part(0, 0, 30, 1);
        Due.is("no formula", x.swap(0, 1), NONE);
        Due.score(x, "k1", 1);
        Due.is("part -1", x.swap(-1, 1), NONE);
        Due.is("part 1", x.swap(1, 1), NONE);
        Due.is("part 24", x.swap(24, 1), NONE);
        Due.is("kind -1", x.swap(0, -1), NONE);
        Due.is("kind 5", x.swap(0, 5), NONE);
        for (int i = 0; i < 19; i++) {
            x.change(0, 3, 2, 9);
        }
        Due.is("19 changes, not better", x.swap(0, 3), 0);
        Due.is("19 changes, better", x.swap(0, 1), 1);
        Due.is("20 changes, not better", x.swap(0, 1), NONE);
        Due.is("20 changes, not better", x.swap(0, 3), NONE);
        Due.score(x, "k2", 1);
        Due.is("20 changes, better", x.swap(0, 2), NONE);
        Due.is("version", x.version(0), 21);
        Due.is("total", x.total(0, 1), 9);
    }
}
