/** Promise 5: life. */
public final class Promise05Test {
    public static void main(String[] args) {
        becomesAnother();
        eachPart();
        theSame();
        parts();
        years();
        Due.end();
    }

    private static void becomesAnother() {
        Due.sentence("A part's life becomes another one");
        MaterialPassports x = Scene.goods(1);
        x.part(0, 2, 30, 10);
        x.part(0, 2, 4, 10);
        Due.is("life", x.life(0, 11), true);
        Due.is("frees 10", x.frees(2, 10), 4);
        Due.is("frees 11", x.frees(2, 11), 30);
        x.right(0, 0, true);
        Due.sees(x, 0, 0, 0, 2, 30, 11);
        Due.sees(x, 0, 0, 1, 2, 4, 10);
        Due.is("back again", x.life(0, 10), true);
        Due.is("frees 10", x.frees(2, 10), 34);
    }

    private static void theSame() {
        Due.sentence("Answers true", "a life that it has already");
        MaterialPassports x = Scene.goods(1);
        x.part(0, 2, 30, 10);
        Due.is("the same", x.life(0, 10), true);
        Due.is("frees 10", x.frees(2, 10), 30);
        Due.is("a call that was not refused", x.version(0), 2);
    }

    private static void parts() {
        Due.sentence("Answers true, or false", "part");
        MaterialPassports x = Scene.some();
        Due.is("part 0", x.life(0, 77), true);
        Due.is("part 5, the last", x.life(5, 78), true);
        Due.is("frees 77", x.frees(0, 77), 100);
        Due.is("frees 78", x.frees(2, 78), 11);
        for (int wrong : Edge.outside(0, 5)) {
            Refused.isFalse("part " + wrong, Scene::some, y -> y.life(wrong, 5));
        }
        Due.is("part 23 of 24", Scene.full().life(23, 5), true);
        Refused.isFalse("part 24 of 24", Scene::full, y -> y.life(24, 5));
    }

    private static void years() {
        Due.sentence("Answers true, or false ... life 0 .. 200", "years");
        for (int years : Edge.inside(0, 200)) {
            MaterialPassports x = Scene.some();
            Due.is("life " + years, x.life(4, years), true);
            x.right(0, 0, true);
            Due.is("seen", x.seen(0, 0, 2, 2), years);
            Due.is("frees", x.frees(4, years), years == 0 ? 67 : 7);
            Due.is("version", x.version(0), 6);
        }
        for (int wrong : Edge.outside(0, 200)) {
            Refused.isFalse("life " + wrong, Scene::some, y -> y.life(4, wrong));
        }
    }

    private static void eachPart() {
        Due.sentence("A part's life becomes another one", "each part's, and no other's");
        MaterialPassports x = Scene.full();
        for (int good = 0; good < 8; good++) {
            x.right(0, good, true);
        }
        for (int number = 0; number < 24; number++) {
            Due.is("before", x.seen(0, number % 8, number / 8, 2), number);
            Due.is("life", x.life(number, 200 - number), true);
            Due.is("behind", x.seen(0, number % 8, number / 8, 2), 200 - number);
        }
        for (int number = 0; number < 24; number++) {
            Due.is("at last", x.seen(0, number % 8, number / 8, 2), 200 - number);
        }
    }
}
