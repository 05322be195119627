/** Promise 13: unit. */
public final class Promise13Test {
    public static void main(String[] args) {
        bytes();
        noBytes();
        threeHundred();
        refusedChangesNothing();
        roomAfterWellText();
        roomAfterOtherText();
        order();
        Due.end();
    }

    private static void bytes() {
        Due.sentence("One more byte of a text, 0 .. 255. Answers true");
        MaterialPassports x = new MaterialPassports();
        for (int u = 0; u <= 255; u++) {
            Due.is("unit(" + u + ")", x.unit(u), true);
        }
        Due.is("score()", x.score(), -1);
    }

    private static void noBytes() {
        Due.sentence("false when it is not such");
        // 256 + '+', -256 + '+' and 65536 + '+' would end the text well by their low bits
        int[] wrong = {-1, 256, 256 + '+', -256 + '+', 65536 + '+', Integer.MIN_VALUE, Integer.MAX_VALUE};
        for (int u : wrong) {
            Refused.isFalse("unit(" + u + ")", Scene::some, x -> x.unit(u));
            Refused.isFalse("unit(" + u + ") of an empty text", () -> Scene.oneGood(1), x -> x.unit(u));
        }
    }

    private static MaterialPassports textOf(int bytes) {
        MaterialPassports x = Scene.goods(1);
        for (int i = 0; i < bytes; i++) {
            Due.is("unit " + i, x.unit(i == bytes - 1 ? '7' : ' '), true);
        }
        return x;
    }

    private static void threeHundred() {
        Due.sentence("false when ... or there are 300");
        MaterialPassports x = textOf(299);
        Due.is("the 300th", x.unit('3'), true);
        Due.is("the 301st", x.unit('4'), false);
        Due.is("the 301st again", x.unit(' '), false);
        Due.is("score()", x.score(), 1);
        Due.is("scored(0)", x.scored(0), 73);
    }

    private static void refusedChangesNothing() {
        Due.sentence("or there are 300 ... A call that is refused changes nothing");
        Refused.isFalse("the 301st", () -> textOf(300), x -> x.unit('4'));
        Refused.isFalse("the 301st, a gap", () -> textOf(300), x -> x.unit(' '));
        Refused.isFalse("no byte at 299", () -> textOf(299), x -> x.unit(256));
        MaterialPassports x = textOf(299);
        for (int i = 0; i < 50; i++) {
            Due.is("no byte", x.unit(256), false);
        }
        Due.is("the 300th", x.unit('1'), true);
    }

    private static void roomAfterWellText() {
        Due.sentence("The text, which is empty then", "when it was well");
        MaterialPassports x = textOf(150);
        Due.is("score()", x.score(), 1);
        for (int i = 0; i < 300; i++) {
            Due.is("unit " + i, x.unit(' '), true);
        }
        Due.is("the 301st", x.unit(' '), false);
    }

    private static void roomAfterOtherText() {
        Due.sentence("The text, which is empty then", "when it was not well");
        MaterialPassports x = textOf(150);
        Due.tell(x, " 8");
        Due.is("score()", x.score(), -3);
        for (int i = 0; i < 300; i++) {
            Due.is("unit " + i, x.unit(' '), true);
        }
        Due.is("the 301st", x.unit(' '), false);
    }

    private static void order() {
        Due.sentence("One more byte of a text", "in the order told");
        MaterialPassports x = Scene.goods(1);
        Due.tell(x, "90 1");
        Due.is("no byte between", x.unit(-1), false);
        Due.tell(x, "2 -");
        Due.is("score()", x.score(), 3);
        Due.is("scored(0)", x.scored(0), 78);
    }
}
