/** Promise 14: score. */
public final class Promise14Test {
    public static void main(String[] args) {
        countsWords();
        noWords();
        gaps();
        noGaps();
        numbers();
        shares();
        otherWords();
        noneOfTheWords();
        everyShortText();
        firstWordThatIsNone();
        tooFewBefore();
        moreThanOneLeft();
        mostWords();
        formulaStays();
        textIsEmptyThen();
        notWellChangesNothingElse();
        Due.end();
    }

    private static void countsWords() {
        Due.sentence("It is WELL when ... Answers how many words it has, if it is well");
        MaterialPassports x = Scene.goods(1);
        Due.score(x, "1", 1);
        Due.score(x, "1 2 +", 3);
        Due.score(x, "1 2 + 3 +", 5);
        Due.score(x, "1 2 3 + +", 5);
        Due.score(x, "1 2 + 3 4 + +", 7);
    }

    private static void noWords() {
        Due.sentence("how many words there are, when more or less than one is left", "less");
        MaterialPassports x = Scene.goods(1);
        Due.score(x, "", -1);
        Due.score(x, " ", -1);
        Due.score(x, "\n", -1);
        Due.score(x, " \n \n ", -1);
        Due.is("scored(0)", x.scored(0), Long.MIN_VALUE);
        Due.is("words of nothing but gaps", blank(300), -1);
    }

    private static int blank(int bytes) {
        MaterialPassports x = new MaterialPassports();
        Due.tell(x, " ".repeat(bytes));
        return x.score();
    }

    private static void gaps() {
        Due.sentence("THE FORMULA is a row of words in a text ... words are rows of bytes other than 32 and 10");
        MaterialPassports x = Scene.goods(1);
        Due.value(x, "4 5 -", -1);
        Due.value(x, "4\n5\n-", -1);
        Due.value(x, " 4 5 -", -1);
        Due.value(x, "4 5 - ", -1);
        Due.value(x, "\n 4 \n\n 5  - \n", -1);
    }

    private static void noGaps() {
        Due.sentence("words are rows of bytes other than 32 and 10", "of all others");
        for (int from = 0; from < 256; from += 64) {
            MaterialPassports x = Scene.goods(1);
            for (int u = from; u < from + 64; u++) {
                boolean gap = u == 32 || u == 10;
                boolean digit = u >= '0' && u <= '9';
                Due.score(x, "4" + (char) u + "5", gap ? -3 : digit ? 1 : -1);
            }
        }
    }

    private static void numbers() {
        Due.sentence("numbers of one to six digits");
        MaterialPassports x = Scene.goods(1);
        for (int digit = 0; digit < 10; digit++) {
            Due.value(x, "" + digit, digit);
        }
        Due.value(x, "10", 10);
        Due.value(x, "99999", 99999);
        Due.value(x, "100000", 100000);
        Due.value(x, "999999", 999999);
        Due.value(x, "000000", 0);
        Due.value(x, "000012", 12);
        String[] wrong = {"1000000", "9999999", "0000000", "0000001", "4294967297", "1".repeat(100),
            "/", ":", "1/", "1:", "/1", ":1", "1a", "a1", "1.", "+1", "-1", "1+", "12345x", "\u00b2"};
        areNone(wrong);
    }

    private static void shares() {
        Due.sentence("k0 .. k4");
        MaterialPassports x = Scene.oneGood(0, 1, 2, 3, 4);
        Due.value(x, "k0", 0);
        Due.value(x, "k1", 100);
        Due.value(x, "k2", 200);
        Due.value(x, "k3", 300);
        Due.value(x, "k4", 400);
        areNone("k5", "k9", "k/", "k:", "k", "k00", "k01", "k-1", "K0", "kk", "0k", "k\0");
    }

    private static void otherWords() {
        Due.sentence("n ... + - * (of the two before them), min, max");
        MaterialPassports x = Scene.oneGood(1, 1);
        Due.value(x, "n", 2);
        Due.value(x, "7 9 +", 16);
        Due.value(x, "7 9 -", -2);
        Due.value(x, "7 9 *", 63);
        Due.value(x, "7 9 min", 7);
        Due.value(x, "9 7 min", 7);
        Due.value(x, "7 9 max", 9);
        Due.value(x, "9 7 max", 9);
        Due.value(x, "7 7 min 7 max", 7);
    }

    private static void noneOfTheWords() {
        Due.sentence("the first word that is none");
        areNone("N", "nn", "n0", "m", "mi", "ma", "mn", "mix", "man", "mim", "mid", "mins", "maxx", "amx", "min1",
                "MIN", "Max", "++", "--", "**", "+-", "/", ",", ".", "x", "\0", "\t", "\r",
                "\u007f", "\u00a0", "\u00ff", "k0k1", "1+2", "nmin");
    }

    private static void areNone(String... wrong) {
        for (String word : wrong) {
            MaterialPassports x = Scene.goods(1);
            Due.score(x, "6", 1);
            Due.score(x, word, -1);
            Due.score(x, "1 2 " + word + " +", -3);
            Due.is("the formula stayed", x.scored(0), 6);
        }
    }

    private static void firstWordThatIsNone() {
        Due.sentence("else -1 less the number (from 0 on) of the first word that is none");
        MaterialPassports x = Scene.goods(1);
        Due.score(x, "x", -1);
        Due.score(x, "x 1", -1);
        Due.score(x, "1 x", -2);
        Due.score(x, "1 2 x", -3);
        Due.score(x, "1 2 + x", -4);
        Due.score(x, "x y", -1);
        Due.score(x, "1 x y", -2);
        Due.score(x, "x +", -1);
        Due.score(x, "\n\n1  x", -2);
        Due.is("scored(0)", x.scored(0), Long.MIN_VALUE);
        Due.score(Scene.goods(1), "1 ".repeat(149) + "x", -150);
    }

    private static void tooFewBefore() {
        Due.sentence(
                "from left to right there are always enough before ... the first word that ... or has too few before it");
        MaterialPassports x = Scene.goods(1);
        for (String word : new String[] {"+", "-", "*", "min", "max"}) {
            Due.score(x, word, -1);
            Due.score(x, "1 " + word, -2);
            Due.score(x, "1 2 " + word, 3);
            Due.score(x, "1 2 " + word + " " + word, -4);
            Due.score(x, "1 " + word + " 2", -2);
        }
        Due.score(x, "+ x", -1);
        Due.score(x, "1 + x", -2);
        Due.score(x, "1 x +", -2);
        Due.score(x, "1 2 3 + + +", -6);
        Due.score(Scene.goods(1), "1 ".repeat(75) + "+ ".repeat(75), -150);
    }

    private static void moreThanOneLeft() {
        Due.sentence(
                "and one is left at the end ... how many words there are, when more or less than one is left", "more");
        MaterialPassports x = Scene.goods(1);
        Due.score(x, "1 2", -3);
        Due.score(x, "1 2 3", -4);
        Due.score(x, "1 2 3 +", -5);
        Due.score(x, "1 2 + 3", -5);
        Due.is("scored(0)", x.scored(0), Long.MIN_VALUE);
    }

    private static void mostWords() {
        Due.sentence("Answers how many words it has", "in 300 bytes");
        MaterialPassports x = Scene.goods(1);
        Due.score(x, "1 ".repeat(75) + "+ ".repeat(74), 149);
        Due.is("scored(0)", x.scored(0), 75);
        Due.score(Scene.goods(1), "1 ".repeat(150), -151);
        Due.score(Scene.goods(1), " 1".repeat(150), -151);
        Due.score(Scene.goods(1), "1 ".repeat(76) + "+ ".repeat(74), -151);
        Due.score(Scene.goods(1), "1".repeat(300), -1);
        Due.score(Scene.goods(1), "x".repeat(300), -1);
        Due.score(Scene.goods(1), " ".repeat(299) + "n", 1);
    }

    private static void formulaStays() {
        Due.sentence("the formula stays");
        MaterialPassports x = Scene.goods(1);
        Due.score(x, "3 4 *", 3);
        for (String notWell : new String[] {"", " ", "x", "5 x", "+", "5 +", "5 6", "5 6 + 7", "5 6 7 +"}) {
            Due.tell(x, notWell);
            Due.is("score() < 0", x.score() < 0, true);
            Due.is("scored(0) behind '" + notWell + "'", x.scored(0), 12);
        }
        Due.tell(x, "8 9");
        Due.is("a text that is not read yet", x.scored(0), 12);
        Due.score(x, " -", 3);
        Due.is("scored(0)", x.scored(0), -1);
        Due.score(x, "2", 1);
        Due.is("a shorter formula", x.scored(0), 2);
        Due.score(x, "2 3 4 + *", 5);
        Due.is("a longer formula", x.scored(0), 14);
    }

    private static void textIsEmptyThen() {
        Due.sentence("The text, which is empty then, tells the formula");
        MaterialPassports x = Scene.goods(1);
        Due.score(x, "1", 1);
        Due.is("score() again", x.score(), -1);
        Due.score(x, "1 2", -3);
        Due.score(x, "+", -1);
        Due.score(x, "x", -1);
        Due.score(x, "5", 1);
        Due.is("scored(0)", x.scored(0), 5);
    }

    private static void notWellChangesNothingElse() {
        Due.sentence("the formula stays ... A call that is refused changes nothing");
        // the text of this scene is read first, so that the refused score() finds an empty one
        Refused.changesNothing("score() of nothing", Promise14Test::textRead, MaterialPassports::score, -1);
        Refused.changesNothing("score() of '+'", Promise14Test::textRead, x -> {
            x.unit('+');
            return x.score();
        }, -1);
        Refused.changesNothing("score() of '1 1'", Promise14Test::textRead, x -> {
            x.unit('1');
            x.unit(' ');
            x.unit('1');
            return x.score();
        }, -3);
    }

    private static MaterialPassports textRead() {
        MaterialPassports x = Scene.some();
        Due.is("score()", x.score(), -3);
        return x;
    }

    private static void everyShortText() {
        Due.sentence("THE FORMULA is a row of words in a text", "every text of up to four of these letters");
        char[] letters = {'k', 'n', 'm', 'i', 'a', 'x', '0', '4', '5', '9', '+', '-', '*', ' ', '\n', '\0'};
        int count = 1;
        for (int length = 0; length <= 4; length++) {
            for (int which = 0; which < count; which++) {
                likeTheModel(letters, length, which);
            }
            count *= letters.length;
        }
    }

    private static void likeTheModel(char[] letters, int length, int which) {
        MaterialPassports x = new MaterialPassports();
        Model model = new Model();
        StringBuilder text = new StringBuilder();
        for (int rest = which; text.length() < length; rest /= letters.length) {
            char letter = letters[rest % letters.length];
            text.append(letter);
            x.unit(letter);
            model.unit(letter);
        }
        Due.is("score() of '" + text + "'", x.score(), model.score());
    }
}
