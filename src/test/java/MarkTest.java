import java.math.BigInteger;

/** Promise 17: marks by keys. */
public final class MarkTest {
    private static final int NONE = MaterialPassports.NONE;
    private static final BigInteger FACTOR = new BigInteger("6364136223846793005");
    private static final BigInteger WRAP = BigInteger.ONE.shiftLeft(64);

    public static void main(String[] args) {
        MaterialPassports x = Due.withGoods(3);
        marks(x, 0);
        x.part(0, 0, 1000000000L, 5);
        x.part(0, 4, 123, 5);
        x.part(1, 2, 77, 5);
        x.part(1, 3, 78, 5);
        marks(x, 0);
        x.into(0, 1);
        marks(x, 0);
        x.change(2, 100000, 1, 9);
        marks(x, 0);
        marks(x, 1);
        x.life(2, 8);
        marks(x, 1);
        marks(x, 2);
        for (int i = 0; i < 8; i++) {
            Due.is("good -1", x.mark(-1, 5, i), NONE);
            Due.is("good 3", x.mark(3, 5, i), NONE);
        }
        Due.is("byte -1", x.mark(0, 5, -1), NONE);
        Due.is("byte 8", x.mark(0, 5, 8), NONE);
        Due.is("byte of MIN_VALUE", x.mark(0, 5, Integer.MIN_VALUE), NONE);
        Due.is("byte of MAX_VALUE", x.mark(0, 5, Integer.MAX_VALUE), NONE);
        Due.end();
    }

    private static void marks(MaterialPassports x, int good) {
        long[] keys = {0, 1, -1, 5, 4294967296L, Long.MIN_VALUE, Long.MAX_VALUE};
        long[] totals = new long[5];
        for (int kind = 0; kind < 5; kind++) {
            totals[kind] = x.total(good, kind);
        }
        int version = x.version(good);
        Due.is("a question about another good between", x.total(2, 0), 0);
        for (long key : keys) {
            BigInteger due = markOf(key, totals, version);
            for (int i = 0; i < 8; i++) {
                long want = due.shiftRight(56 - 8 * i).intValue() & 0xff;
                Due.is("mark(" + good + ", " + key + ", " + i + ")", x.mark(good, key, i), want);
            }
        }
    }

    private static BigInteger markOf(long key, long[] totals, int version) {
        BigInteger mark = BigInteger.valueOf(key).mod(WRAP);
        for (long total : totals) {
            BigInteger added = BigInteger.valueOf(total + 1);
            mark = mark.add(added).multiply(FACTOR).mod(WRAP);
            mark = mark.xor(mark.shiftRight(32));
        }
        return mark.add(BigInteger.valueOf(version)).multiply(FACTOR).mod(WRAP);
    }
}
