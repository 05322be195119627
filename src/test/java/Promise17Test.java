import java.math.BigInteger;

/** Promise 17: mark. */
public final class Promise17Test {
    private static final int NONE = MaterialPassports.NONE;
    private static final BigInteger FACTOR = new BigInteger("6364136223846793005");
    private static final BigInteger WRAP = BigInteger.ONE.shiftLeft(64);
    // with -1 the first sum is 0, with the greatest key it leaves the longs
    private static final long[] KEYS = {0, 1, -1, -2, 4294967295L, 4294967296L, Long.MIN_VALUE, Long.MAX_VALUE};

    public static void main(String[] args) {
        withoutParts();
        byTotals();
        ofEachGood();
        questionChangesNothing();
        byGreatestTotals();
        byVersion();
        bytesInOrder();
        bytes();
        goods();
        changesNothing();
        Due.end();
    }

    private static void marks(MaterialPassports x, int good, int version, long... totals) {
        for (long key : KEYS) {
            BigInteger due = markOf(key, totals, version);
            for (int i = 0; i < 8; i++) {
                long want = due.shiftRight(56 - 8 * i).intValue() & 0xff;
                Due.is("mark(" + good + ", " + key + ", " + i + ")", x.mark(good, key, i), want);
            }
        }
    }

    private static BigInteger markOf(long key, long[] totals, int version) {
        BigInteger mark = BigInteger.valueOf(key).mod(WRAP);
        for (long total : totals) {
            mark = mark.add(BigInteger.valueOf(total + 1)).multiply(FACTOR).mod(WRAP);
            mark = mark.xor(mark.shiftRight(32));
        }
        return mark.add(BigInteger.valueOf(version)).multiply(FACTOR).mod(WRAP);
    }

    private static void withoutParts() {
        Due.sentence("of a good's mark by a key: x is the key; for each kind", "nothing of any kind, version 0");
        MaterialPassports x = Scene.goods(8);
        marks(x, 0, 0, 0, 0, 0, 0, 0);
        marks(x, 7, 0, 0, 0, 0, 0, 0);
    }

    private static void byTotals() {
        Due.sentence("x becomes (x + the good's total of it + 1) * 6364136223846793005, then x ^ (x >>> 32)");
        MaterialPassports x = Scene.some();
        marks(x, 0, 5, 100, 0, 0, 310, 67);
        marks(x, 1, 3, 0, 0, 0, 0, 60);
        Due.is("a question about another good between", x.total(0, 0), 100);
        marks(x, 2, 2, 0, 0, 11, 0, 0);
    }

    private static void byGreatestTotals() {
        Due.sentence("x + the good's total of it + 1", "the greatest totals");
        MaterialPassports x = Scene.goods(8);
        for (int number = 0; number < 24; number++) {
            x.part(number / 3, number % 3, 1000000000L, 9);
            x.into(number, number / 3 + 1);
        }
        marks(x, 0, 6, 3280000000000L, 3280000000000L, 3280000000000L, 0, 0);
    }

    private static void byVersion() {
        Due.sentence("at last (x + its version) * 6364136223846793005");
        MaterialPassports x = Scene.oneGood(8);
        marks(x, 0, 1, 8, 0, 0, 0, 0);
        x.life(0, 1);
        marks(x, 0, 2, 8, 0, 0, 0, 0);
        for (int i = 0; i < 253; i++) {
            x.life(0, 1);
        }
        Due.is("version(0)", x.version(0), 255);
        x.life(0, 2);
        marks(x, 0, 256, 8, 0, 0, 0, 0);
    }

    private static void bytesInOrder() {
        Due.sentence("the bytes of x, the highest first");
        MaterialPassports x = Scene.goods(1);
        // the mark of a good without anything by key -1, worked out apart: all kinds' sums start from 0
        long due = markOf(-1, new long[5], 0).longValue();
        long got = 0;
        for (int i = 0; i < 8; i++) {
            int one = x.mark(0, -1, i);
            Due.is("a byte 0 .. 255", one >= 0 && one <= 255, true);
            got = got << 8 | one;
        }
        Due.is("all bytes", got, due);
    }

    private static void bytes() {
        Due.sentence("Byte i, 0 .. 7 ... NONE when there are none such", "byte");
        MaterialPassports x = Scene.some();
        for (long key : KEYS) {
            for (int i = 0; i < 8; i++) {
                Due.is("byte " + i, x.mark(0, key, i) >= 0, true);
            }
            for (int wrong : Edge.outside(0, 7)) {
                Due.is("byte " + wrong, x.mark(0, key, wrong), NONE);
            }
        }
    }

    private static void goods() {
        Due.sentence("NONE when there are none such", "good");
        MaterialPassports x = Scene.some();
        for (int i = 0; i < 8; i++) {
            Due.is("good 0", x.mark(0, 5, i) >= 0, true);
            Due.is("good 2, the last", x.mark(2, 5, i) >= 0, true);
            for (int wrong : Edge.outside(0, 2)) {
                Due.is("good " + wrong, x.mark(wrong, 5, i), NONE);
            }
        }
        Due.is("good 8 of 8", Scene.full().mark(8, 5, 0), NONE);
    }

    private static void changesNothing() {
        Due.sentence("NONE when there are none such ... A call that is refused changes nothing");
        Refused.none("good -1", Scene::some, x -> x.mark(-1, 5, 0));
        Refused.none("good 3", Scene::some, x -> x.mark(3, 5, 0));
        Refused.none("byte -1", Scene::some, x -> x.mark(0, 5, -1));
        Refused.none("byte 8", Scene::some, x -> x.mark(0, 5, 8));
    }

    private static void ofEachGood() {
        Due.sentence("of a good's mark by a key", "each good's");
        for (int good = 0; good < 8; good++) {
            MaterialPassports x = Scene.full();
            long[] totals = new long[5];
            for (int kind = 0; kind < 5; kind++) {
                totals[kind] = x.total(good, kind);
            }
            marks(x, good, x.version(good), totals);
        }
    }

    private static void questionChangesNothing() {
        Due.sentence("Nothing is promised beyond the answers and state changes described above", "a question");
        int one = Scene.some().mark(0, 5, 0);
        Refused.changesNothing("mark(0, 5, 0)", Scene::some, x -> x.mark(0, 5, 0), one);
    }
}
