/** Promise 10: version. */
public final class Promise10Test {
    private static final int NONE = MaterialPassports.NONE;

    public static void main(String[] args) {
        fromZeroOn();
        byEachCallThatTells();
        ofThatGoodAlone();
        questionChangesNothing();
        bySwap();
        notByInnerOrOuter();
        notByRefused();
        notByWhatTellsNothing();
        none();
        changesNothing();
        Due.end();
    }

    private static void fromZeroOn() {
        Due.sentence("A VERSION of a good rises by 1, from 0 on ... A good's version");
        MaterialPassports x = Scene.goods(8);
        for (int good = 0; good < 8; good++) {
            Due.is("a new good", x.version(good), 0);
        }
        for (int times = 1; times <= 24; times++) {
            x.part(7, 0, 0, 0);
            Due.is("version(7)", x.version(7), times);
        }
        Due.is("version(6)", x.version(6), 0);
    }

    private static void byEachCallThatTells() {
        Due.sentence("by each call that was not refused and told something of it or of one of its parts");
        MaterialPassports x = Scene.goods(3);
        x.part(1, 0, 1, 1);
        Due.is("part", x.version(1), 1);
        x.into(0, 2);
        Due.is("into", x.version(1), 2);
        x.life(0, 3);
        Due.is("life", x.version(1), 3);
        x.change(0, 8, 2, 2);
        Due.is("change", x.version(1), 4);
        x.change(0, 8, 2, 2);
        Due.is("the same change", x.version(1), 5);
        Due.is("another good", x.version(0), 0);
        Due.is("the inner good", x.version(2), 0);
    }

    private static void bySwap() {
        Due.sentence("a swap() that answers 1");
        MaterialPassports x = Scene.goods(2);
        x.part(1, 0, 4, 1);
        Due.is("without a formula", x.swap(0, 1), NONE);
        Due.is("version", x.version(1), 1);
        Due.score(x, "k1", 1);
        Due.is("swap", x.swap(0, 1), 1);
        Due.is("version", x.version(1), 2);
        Due.is("swap", x.swap(0, 2), 0);
        Due.is("version", x.version(1), 2);
        Due.is("another good", x.version(0), 0);
    }

    private static void notByInnerOrOuter() {
        Due.sentence("not by what its inner goods are told");
        MaterialPassports x = Scene.goods(2);
        x.part(0, 0, 1, 1);
        x.part(1, 0, 1, 1);
        x.into(0, 1);
        x.part(1, 1, 1, 1);
        x.life(1, 2);
        x.change(1, 2, 2, 2);
        Due.score(x, "k3", 1);
        Due.is("swap", x.swap(1, 3), 1);
        Due.is("the outer", x.version(0), 2);
        Due.is("the inner", x.version(1), 5);
        x.life(0, 2);
        x.change(0, 2, 2, 2);
        Due.is("the outer", x.version(0), 4);
        Due.is("the inner", x.version(1), 5);
    }

    private static void notByRefused() {
        Due.sentence("by each call that was not refused");
        MaterialPassports x = Scene.some();
        int[] before = {x.version(0), x.version(1), x.version(2)};
        x.part(0, 9, 1, 1);
        x.part(3, 0, 1, 1);
        x.into(0, 2);
        x.into(1, 0);
        x.life(0, 201);
        x.life(6, 1);
        x.change(0, -1, 0, 0);
        x.change(0, 0, 5, 0);
        x.swap(0, 5);
        x.swap(6, 0);
        for (int good = 0; good < 3; good++) {
            Due.is("version(" + good + ")", x.version(good), before[good]);
        }
        Due.is("good 0: 3 parts, into, a change", before[0], 5);
        Due.is("good 1: 2 parts, a change", before[1], 3);
        Due.is("good 2: a part, a change", before[2], 2);
    }

    private static void notByWhatTellsNothing() {
        Due.sentence("part(), into(), life(), change(), a swap() that answers 1");
        MaterialPassports x = Scene.some();
        x.good();
        x.right(0, 0, true);
        x.right(0, 0, false);
        x.seen(0, 0, 0, 1);
        x.total(0, 0);
        x.totalOn(0, 0, 0);
        x.frees(0, 10);
        x.mark(0, 1, 1);
        x.most(0);
        x.unit('1');
        x.score();
        x.scored(0);
        x.version(0);
        Due.is("version(0)", x.version(0), 5);
    }

    private static void none() {
        Due.sentence("NONE when there is none such");
        for (int count = 0; count <= 8; count++) {
            MaterialPassports x = Scene.goods(count);
            if (count > 0) {
                Due.is("the last good", x.version(count - 1), 0);
            }
            for (int wrong : Edge.outside(0, count - 1)) {
                Due.is("good " + wrong, x.version(wrong), NONE);
            }
        }
    }

    private static void changesNothing() {
        Due.sentence("NONE when there is none such ... A call that is refused changes nothing");
        Refused.none("good -1", Scene::some, x -> x.version(-1));
        Refused.none("good 3", Scene::some, x -> x.version(3));
        Refused.none("good 8", Scene::full, x -> x.version(8));
    }

    private static void ofThatGoodAlone() {
        Due.sentence("told something of it or of one of its parts", "each good's, and no other's");
        for (int told = 0; told < 8; told++) {
            MaterialPassports x = Scene.full();
            int part = told + 8;
            int before = x.version(told);
            Due.is("life", x.life(part, 9), true);
            Due.is("into", told < 7 && x.into(part, 7), told < 7);
            MaterialPassports untold = Scene.full();
            for (int good = 0; good < 8; good++) {
                int more = good != told ? 0 : told < 7 ? 2 : 1;
                Due.is("version(" + good + ")", x.version(good), untold.version(good) + more);
            }
            Due.is("it was there before", before > 0, true);
        }
    }

    private static void questionChangesNothing() {
        Due.sentence("Nothing is promised beyond the answers and state changes described above", "a question");
        Refused.changesNothing("version(0)", Scene::some, x -> x.version(0), 5);
    }
}
