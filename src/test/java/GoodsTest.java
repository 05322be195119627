/** Promises 1 to 6 and 10: what is told of goods and parts, and their versions. */
public final class GoodsTest {
    private static final int NONE = MaterialPassports.NONE;

    public static void main(String[] args) {
        newObject();
        goods();
        partLimits();
        partWrong();
        into();
        intoLongChain();
        life();
        changeLimits();
        changeWrong();
        versions();
        versionsOfRefused();
        Due.end();
    }

    private static void newObject() {
        MaterialPassports x = new MaterialPassports();
        Due.is("NONE", NONE, -1);
        Due.is("version(0)", x.version(0), NONE);
        Due.is("total(0, 0)", x.total(0, 0), NONE);
        Due.is("life(0, 1)", x.life(0, 1), false);
        Due.is("right(0, 0, true)", x.right(0, 0, true), false);
        Due.is("most(0)", x.most(0), NONE);
        for (int kind = 0; kind < 5; kind++) {
            Due.is("frees", x.frees(kind, 0), 0);
        }
        Due.is("good()", x.good(), 0);
        Due.is("scored(0)", x.scored(0), Long.MIN_VALUE);
        Due.is("version(0)", x.version(0), 0);
        Due.is("part", x.part(0, 1, 5, 7), 0);
        Due.is("part", x.part(0, 1, 6, 7), 1);
        for (int person = 0; person < 8; person++) {
            Due.is("no right: life", x.seen(person, 0, 0, 2), -2);
            Due.is("no right: grams", x.seen(person, 0, 0, 1), 11);
        }
        MaterialPassports other = new MaterialPassports();
        Due.is("another object's good()", other.good(), 0);
        Due.is("another object's total", other.total(0, 1), 0);
    }

    private static void goods() {
        MaterialPassports x = Due.withGoods(8);
        Due.is("ninth good()", x.good(), NONE);
        Due.is("ninth good()", x.good(), NONE);
        Due.is("version(7)", x.version(7), 0);
        Due.is("version(8)", x.version(8), NONE);
        Due.is("part of the last good", x.part(7, 0, 1, 1), 0);
    }

    private static void partLimits() {
        MaterialPassports x = Due.withGoods(2);
        Due.is("least", x.part(0, 0, 0, 0), 0);
        Due.is("greatest", x.part(1, 4, 1000000000L, 200), 1);
        Due.is("greatest total", x.total(1, 4), 1000000000L);
        for (int i = 2; i < 24; i++) {
            Due.is("part " + i, x.part(i % 2, i % 5, i, i), i);
        }
        Due.is("25th part", x.part(0, 0, 1, 1), NONE);
        Due.is("version after the refused", x.version(0), 12);
        Due.is("total of kind 2", x.total(0, 2), 2 + 12 + 22);
        Due.is("last part's life", x.frees(3, 23), 23);
    }

    private static void partWrong() {
        MaterialPassports x = Due.withGoods(1);
        int[] wrongGoods = {-1, 1, 8, Integer.MIN_VALUE, Integer.MAX_VALUE};
        for (int wrong : wrongGoods) {
            Due.is("good " + wrong, x.part(wrong, 0, 1, 1), NONE);
        }
        int[] wrongKinds = {-1, 5, Integer.MIN_VALUE, Integer.MAX_VALUE};
        for (int wrong : wrongKinds) {
            Due.is("kind " + wrong, x.part(0, wrong, 1, 1), NONE);
        }
        long[] wrongGrams = {-1, 1000000001L, Long.MIN_VALUE, Long.MAX_VALUE, 1L << 32};
        for (long wrong : wrongGrams) {
            Due.is("grams " + wrong, x.part(0, 0, wrong, 1), NONE);
        }
        int[] wrongLives = {-1, 201, Integer.MIN_VALUE, Integer.MAX_VALUE};
        for (int wrong : wrongLives) {
            Due.is("life " + wrong, x.part(0, 0, 1, wrong), NONE);
        }
        Due.is("version", x.version(0), 0);
        Due.is("the refused took no number", x.part(0, 0, 1, 1), 0);
    }

    private static void into() {
        MaterialPassports x = Due.withGoods(4);
        for (int good = 0; good < 4; good++) {
            Due.is("part", x.part(good, good, 10, 1), 2 * good);
            Due.is("part", x.part(good, good, 1, 1), 2 * good + 1);
        }
        Due.is("part -1", x.into(-1, 1), false);
        Due.is("part 8", x.into(8, 1), false);
        Due.is("inner -1", x.into(0, -1), false);
        Due.is("inner 4", x.into(0, 4), false);
        Due.is("into itself", x.into(0, 0), false);
        Due.is("0 has 1", x.into(0, 1), true);
        Due.is("it has one", x.into(0, 2), false);
        Due.is("it has this one", x.into(0, 1), false);
        Due.is("1 in 0, so 0 not in 1", x.into(2, 0), false);
        Due.is("1 has 2", x.into(2, 2), true);
        Due.is("2 in 1 in 0, so 0 not in 2", x.into(4, 0), false);
        Due.is("1 not in 2", x.into(4, 1), false);
        Due.is("0 has 1 twice", x.into(1, 1), true);
        Due.is("1 has 3", x.into(3, 3), true);
        Due.is("2 has 3", x.into(5, 3), true);
        Due.is("3 has none of them", x.into(6, 0) || x.into(6, 1) || x.into(6, 2) || x.into(6, 3), false);
        // 0 = own + 2 times (1 = own + 2 + 3), 2 = own + 3
        Due.is("total(0, 0)", x.total(0, 0), 11);
        Due.is("total(0, 1)", x.total(0, 1), 22);
        Due.is("total(0, 2)", x.total(0, 2), 22);
        Due.is("total(0, 3)", x.total(0, 3), 44);
        Due.is("total(2, 3)", x.total(2, 3), 11);
        Due.is("total(3, 0)", x.total(3, 0), 0);
    }

    private static void intoLongChain() {
        MaterialPassports x = Due.withGoods(8);
        int number = 0;
        for (int good = 0; good < 8; good++) {
            for (int i = 0; i < 3; i++) {
                Due.is("part", x.part(good, 4, 1000000000L, 9), number);
                if (good > 0) {
                    Due.is("into", x.into(number, good - 1), true);
                }
                number++;
            }
        }
        for (int inner = 0; inner < 8; inner++) {
            Due.is("last in first", x.into(0, inner), false);
        }
        long due = 0;
        for (int good = 0; good < 8; good++) {
            due = 3 * (1000000000L + due);
            Due.is("total of the chain " + good, x.total(good, 4), due);
        }
        Due.is("frees counts each part once", x.frees(4, 9), 24000000000L);
        Due.score(x, "k4", 1);
        Due.is("scored(7)", x.scored(7), 1000);
    }

    private static void life() {
        MaterialPassports x = Due.withGoods(1);
        Due.is("part", x.part(0, 2, 30, 10), 0);
        Due.is("life 200", x.life(0, 200), true);
        Due.is("frees 10", x.frees(2, 10), 0);
        Due.is("frees 200", x.frees(2, 200), 30);
        Due.is("life 0", x.life(0, 0), true);
        Due.is("frees 0", x.frees(2, 0), 30);
        Due.is("life -1", x.life(0, -1), false);
        Due.is("life 201", x.life(0, 201), false);
        Due.is("part -1", x.life(-1, 5), false);
        Due.is("part 1", x.life(1, 5), false);
        Due.is("part 24", x.life(24, 5), false);
        Due.is("frees still 0", x.frees(2, 0), 30);
        Due.is("the same life", x.life(0, 0), true);
        Due.is("version", x.version(0), 4);
    }

    private static void changeLimits() {
        MaterialPassports x = Due.withGoods(1);
        Due.is("part", x.part(0, 0, 1, 1), 0);
        Due.is("part", x.part(0, 0, 1, 1), 1);
        Due.is("day 0, least grams", x.change(0, 0, 4, 0), true);
        Due.is("day 100000, most grams", x.change(1, 100000, 4, 1000000000L), true);
        Due.is("total", x.total(0, 4), 1000000000L);
        for (int i = 2; i < 20; i++) {
            Due.is("change " + i, x.change(i % 2, i, i % 5, i), true);
        }
        Due.is("21st change", x.change(0, 1, 1, 1), false);
        Due.is("version", x.version(0), 22);
        Due.is("part 0 by day 18", x.total(0, 3), 18);
        Due.is("part 1 by day 100000", x.total(0, 4), 1000000000L);
        Due.is("part 1 by day 19", x.totalOn(0, 4, 99999), 19);
    }

    private static void changeWrong() {
        MaterialPassports x = Due.withGoods(1);
        Due.is("part", x.part(0, 3, 12, 1), 0);
        Due.is("part -1", x.change(-1, 0, 0, 1), false);
        Due.is("part 1", x.change(1, 0, 0, 1), false);
        Due.is("day -1", x.change(0, -1, 0, 1), false);
        Due.is("day 100001", x.change(0, 100001, 0, 1), false);
        Due.is("day 1 << 32", x.change(0, 1L << 32, 0, 1), false);
        Due.is("kind -1", x.change(0, 0, -1, 1), false);
        Due.is("kind 5", x.change(0, 0, 5, 1), false);
        Due.is("grams -1", x.change(0, 0, 0, -1), false);
        Due.is("grams too many", x.change(0, 0, 0, 1000000001L), false);
        Due.is("total", x.total(0, 3), 12);
        Due.is("version", x.version(0), 1);
        for (int i = 0; i < 20; i++) {
            Due.is("the refused took no room", x.change(0, 5, i % 5, i), true);
        }
        Due.is("21st", x.change(0, 5, 0, 0), false);
        Due.is("told last of the day", x.total(0, 4), 19);
    }

    private static void versions() {
        MaterialPassports x = Due.withGoods(2);
        Due.is("good() tells nothing of it", x.version(0), 0);
        x.part(0, 0, 1, 1);
        Due.is("part", x.version(0), 1);
        x.part(1, 1, 1, 1);
        Due.is("another good's part", x.version(0), 1);
        x.into(0, 1);
        Due.is("into", x.version(0), 2);
        Due.is("into tells nothing of the inner", x.version(1), 1);
        x.life(0, 3);
        Due.is("life", x.version(0), 3);
        x.change(0, 8, 2, 2);
        Due.is("change", x.version(0), 4);
        x.life(1, 3);
        x.change(1, 8, 2, 2);
        Due.is("what the inner is told", x.version(0), 4);
        Due.is("the inner", x.version(1), 3);
        Due.score(x, "k3", 1);
        Due.is("swap", x.swap(0, 3), 1);
        Due.is("swap 1", x.version(0), 5);
        Due.is("swap", x.swap(0, 4), 0);
        Due.is("swap 0", x.version(0), 5);
        x.right(0, 0, true);
        x.seen(0, 0, 0, 0);
        x.total(0, 0);
        x.mark(0, 1, 1);
        x.scored(0);
        Due.is("what tells nothing", x.version(0), 5);
        Due.is("version(-1)", x.version(-1), NONE);
        Due.is("version(2)", x.version(2), NONE);
        Due.is("version(8)", x.version(8), NONE);
    }

    private static void versionsOfRefused() {
        MaterialPassports x = Due.withGoods(1);
        x.part(0, 0, 1, 1);
        x.part(0, 9, 1, 1);
        x.into(0, 0);
        x.life(0, 999);
        x.change(0, -1, 0, 0);
        x.swap(0, 1);
        Due.is("refused calls", x.version(0), 1);
    }
}
