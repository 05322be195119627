/** "What it is": an object is used for at most 512 calls. */
public final class CallsTest {
    private static final int MANY = 5000;

    public static void main(String[] args) {
        lastCalls();
        lastBytes();
        laterCallsEnd();
        Due.end();
    }

    private static void lastCalls() {
        Due.sentence("An object is used for at most 512 calls after it has been made", "the 511th and the 512th");
        MaterialPassports x = Scene.oneGood(5);
        for (int call = 3; call <= 510; call++) {
            Due.is("call " + call, x.life(0, call % 201), true);
        }
        Due.is("the 511th call", x.version(0), 509);
        Due.is("the 512th call", x.frees(0, 510 % 201), 5);
    }

    private static void lastBytes() {
        Due.sentence("An object is used for at most 512 calls after it has been made", "two texts");
        MaterialPassports x = Scene.goods(1);
        Due.score(x, "1 ".repeat(75) + "+ ".repeat(74) + "  ", 149);
        Due.score(x, "2 ".repeat(52) + "* ".repeat(51) + " ", 103);
        Due.is("the 511th call", x.scored(0), 1000000000000L);
        Due.is("the 512th call", x.scored(1), Long.MIN_VALUE);
    }

    private static void laterCallsEnd() {
        Due.sentence("what later calls answer is free", "they only must not throw");
        MaterialPassports x = Scene.full();
        for (int i = -MANY; i < MANY; i++) {
            x.good();
            x.part(i, i, i, i);
            x.into(i, i + 1);
            x.life(i, i);
            x.change(i, i, i, i);
            x.totalOn(i, i, i);
            x.frees(i, i);
            x.right(i, i, true);
            x.seen(i, i, i, i);
            x.unit(i);
            x.swap(i, i);
            x.mark(i, i, i);
            x.most(i);
            if (i % 400 == 0) {
                x.score();
            }
            x.scored(i);
        }
        Due.is("it goes on", true, true);
    }
}
