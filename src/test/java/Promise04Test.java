/** Promise 4: into. */
public final class Promise04Test {
    public static void main(String[] args) {
        materialsBesidesOwnGrams();
        partsToldLater();
        eachPartAndInner();
        parts();
        inners();
        hasOne();
        inItselfAtOnce();
        inItselfByTwo();
        inItselfByAllGoods();
        refusedPartMayHaveAnother();
        inSeveral();
        manyTimes();
        Due.end();
    }

    /** Goods with one part each: part g is of good g and of kind g % 5. */
    private static MaterialPassports onePartEach(int goods) {
        MaterialPassports x = Scene.goods(goods);
        for (int good = 0; good < goods; good++) {
            Due.is("part", x.part(good, good % 5, 10 + good, 1), good);
        }
        return x;
    }

    /** Good g is in good g - 1, from good 0 on. */
    private static MaterialPassports chain(int goods) {
        MaterialPassports x = onePartEach(goods);
        for (int good = 1; good < goods; good++) {
            Due.is("into", x.into(good - 1, good), true);
        }
        return x;
    }

    private static void materialsBesidesOwnGrams() {
        Due.sentence("then it has that good's materials besides its own grams");
        MaterialPassports x = onePartEach(3);
        Due.is("into", x.into(0, 1), true);
        Due.totals(x, 0, 10, 11, 0, 0, 0);
        Due.totals(x, 1, 0, 11, 0, 0, 0);
        Due.is("an inner good without grams of that kind", x.into(1, 2), true);
        Due.totals(x, 0, 10, 11, 12, 0, 0);
        Due.is("a changed part keeps its inner good", x.change(0, 0, 4, 3), true);
        Due.totals(x, 0, 0, 11, 12, 0, 3);
    }

    private static void partsToldLater() {
        Due.sentence("A part is (or has) an inner good from now on ... (its INNER one, told later)");
        MaterialPassports x = Scene.goods(2);
        x.part(0, 0, 1, 1);
        Due.is("a good without parts", x.into(0, 1), true);
        Due.totals(x, 0, 1, 0, 0, 0, 0);
        x.part(1, 1, 20, 1);
        Due.totals(x, 0, 1, 20, 0, 0, 0);
        x.change(1, 7, 2, 30);
        Due.totals(x, 0, 1, 0, 30, 0, 0);
        Due.is("its totals have no day of their own", x.totalOn(0, 1, 0), 20);
    }

    private static void parts() {
        Due.sentence("false when there are none such", "part");
        MaterialPassports x = onePartEach(3);
        Due.is("part 0", x.into(0, 1), true);
        Due.is("part 2, the last", x.into(2, 1), true);
        for (int wrong : Edge.outside(0, 5)) {
            Refused.isFalse("part " + wrong, Scene::some, y -> y.into(wrong, 2));
        }
        Refused.isFalse("part 24", Scene::full, y -> y.into(24, 7));
        Refused.isFalse("no part at all", () -> Scene.goods(2), y -> y.into(0, 1));
    }

    private static void inners() {
        Due.sentence("false when there are none such", "inner");
        MaterialPassports x = onePartEach(3);
        Due.is("inner 0", x.into(1, 0), true);
        Due.is("inner 2, the last", x.into(0, 2), true);
        for (int wrong : Edge.outside(0, 2)) {
            Refused.isFalse("inner " + wrong, Scene::some, y -> y.into(4, wrong));
        }
        Refused.isFalse("inner 8", Scene::full, y -> y.into(8, 8));
    }

    private static void hasOne() {
        Due.sentence("false when ... it has one");
        Refused.isFalse("another one", Scene::some, x -> x.into(0, 2));
        Refused.isFalse("the same one", Scene::some, x -> x.into(0, 1));
        MaterialPassports x = Scene.some();
        Due.is("another part of the good", x.into(1, 2), true);
        Due.is("has one too", x.into(1, 1), false);
    }

    private static void inItselfAtOnce() {
        Due.sentence("false when ... or a good would be in itself");
        Refused.isFalse("its own good", Scene::some, x -> x.into(1, 0));
        for (int good = 0; good < 8; good++) {
            int own = good;
            Refused.isFalse("its own good " + own, () -> onePartEach(8), x -> x.into(own, own));
        }
    }

    private static void inItselfByTwo() {
        Due.sentence("No good is in itself, part by part", "by two");
        Refused.isFalse("1 is in 0", () -> chain(2), x -> x.into(1, 0));
        Refused.isFalse("1 is in 0", Scene::some, x -> x.into(3, 0));
    }

    private static void inItselfByAllGoods() {
        Due.sentence("No good is in itself, part by part", "by all");
        for (int goods = 3; goods <= 8; goods++) {
            int count = goods;
            for (int inner = 0; inner < goods; inner++) {
                int sought = inner;
                Refused.isFalse("the last has " + inner, () -> chain(count), x -> x.into(count - 1, sought));
            }
        }
        MaterialPassports x = chain(8);
        Due.totals(x, 0, 10 + 15, 11 + 16, 12 + 17, 13, 14);
        Due.is("one more part of good 0", x.part(0, 0, 1, 1), 8);
        Due.is("the first has the last twice", x.into(8, 7), true);
        Due.totals(x, 0, 11 + 15, 11 + 16, 12 + 17 + 17, 13, 14);
    }

    private static void refusedPartMayHaveAnother() {
        Due.sentence("A call that is refused changes nothing", "the part still has none");
        MaterialPassports x = onePartEach(3);
        Due.is("itself", x.into(0, 0), false);
        Due.is("none such", x.into(0, 3), false);
        Due.is("another", x.into(0, 2), true);
        Due.is("version", x.version(0), 2);
        Due.is("the one that has it", x.into(2, 0), false);
        Due.is("one beside", x.into(2, 1), true);
        Due.totals(x, 0, 10, 11, 12, 0, 0);
    }

    private static void inSeveral() {
        Due.sentence("a part may BE a good ... for each of its parts with an inner good that good's total");
        MaterialPassports x = Scene.goods(4);
        for (int good = 0; good < 4; good++) {
            x.part(good, good, 10, 1);
            x.part(good, good, 1, 1);
        }
        Due.is("0 has 1", x.into(0, 1), true);
        Due.is("0 has 1 twice", x.into(1, 1), true);
        Due.is("1 has 2", x.into(2, 2), true);
        Due.is("1 has 3", x.into(3, 3), true);
        Due.is("2 has 3", x.into(4, 3), true);
        Due.totals(x, 0, 11, 22, 22, 44, 0);
        Due.totals(x, 1, 0, 11, 11, 22, 0);
        Due.totals(x, 2, 0, 0, 11, 11, 0);
        Due.totals(x, 3, 0, 0, 0, 11, 0);
    }

    private static void manyTimes() {
        Due.sentence("for each of its parts with an inner good that good's total", "the greatest");
        MaterialPassports x = Scene.goods(8);
        long due = 0;
        for (int good = 0; good < 8; good++) {
            for (int number = 3 * good; number < 3 * good + 3; number++) {
                Due.is("part", x.part(good, 4, 1000000000L, 9), number);
                Due.is("into", x.into(number, good - 1), good > 0);
            }
            due = 3 * (1000000000L + due);
            Due.is("total of good " + good, x.total(good, 4), due);
        }
        Due.is("9840 times", x.total(7, 4), 9840000000000L);
    }

    private static void eachPartAndInner() {
        Due.sentence("A part is (or has) an inner good from now on. Answers true", "each one");
        for (int number = 0; number < 24; number++) {
            for (int inner = 0; inner < 8; inner++) {
                MaterialPassports x = Scene.goods(8);
                for (int part = 0; part < 24; part++) {
                    x.part(part % 8, part / 8, 1 + part, 1);
                }
                int owner = number % 8;
                Due.is("into(" + number + ", " + inner + ")", x.into(number, inner), owner != inner);
                for (int good = 0; good < 8; good++) {
                    long within = good == owner && owner != inner ? 1 + inner : 0;
                    Due.is("total(" + good + ", 0)", x.total(good, 0), 1 + good + within);
                }
            }
        }
    }
}
