/** Objects that something has been told to, each the same whenever it is made. */
final class Scene {
    private Scene() {
    }

    static MaterialPassports goods(int count) {
        MaterialPassports x = new MaterialPassports();
        for (int i = 0; i < count; i++) {
            Due.is("good()", x.good(), i);
        }
        return x;
    }

    /** One good with a part of each kind that has grams given; kind 0 first, lives 1. */
    static MaterialPassports oneGood(long... gramsByKind) {
        MaterialPassports x = goods(1);
        for (int kind = 0; kind < gramsByKind.length; kind++) {
            Due.is("part", x.part(0, kind, gramsByKind[kind], 1), kind);
        }
        return x;
    }

    /**
     * 3 goods, 6 parts, 3 changes, 2 rights, a formula, and a text that is not read yet: good 0 has
     * the parts 0, 1, 4, good 1 the parts 2, 3, good 2 part 5; good 1 is in part 0.
     */
    static MaterialPassports some() {
        MaterialPassports x = goods(3);
        x.part(0, 0, 100, 10);
        x.part(0, 1, 300, 10);
        x.part(1, 1, 50, 0);
        x.part(1, 2, 0, 200);
        x.part(0, 4, 7, 1);
        x.part(2, 3, 9, 199);
        x.into(0, 1);
        x.change(2, 5, 4, 60);
        x.change(5, 100000, 2, 11);
        x.change(1, 0, 3, 310);
        x.right(3, 1, true);
        x.right(7, 0, true);
        Due.score(x, "k3 k4 max n -", 5);
        Due.tell(x, "2 3");
        return x;
    }

    /**
     * 8 goods with 3 parts each, 20 changes, a formula; good g has the parts g, g + 8, g + 16, and
     * its first one has good g + 1 in it.
     */
    static MaterialPassports full() {
        MaterialPassports x = goods(8);
        for (int number = 0; number < 24; number++) {
            Due.is("part", x.part(number % 8, number % 5, 10 + number, number), number);
        }
        for (int good = 0; good < 7; good++) {
            Due.is("into", x.into(good, good + 1), true);
        }
        for (int i = 0; i < 20; i++) {
            Due.is("change", x.change(i, 5000L * i, (i + 2) % 5, 100 + i), true);
        }
        x.right(7, 7, true);
        Due.score(x, "k1 n *", 3);
        Due.tell(x, "1");
        return x;
    }
}
