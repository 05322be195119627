/** Promise 11: right. */
public final class Promise11Test {
    private static final int MASKED = -2;

    public static void main(String[] args) {
        onAndOff();
        ofOnePersonAndGood();
        beforePartsAreTold();
        persons();
        goods();
        Due.end();
    }

    private static void onAndOff() {
        Due.sentence("A person has a right to see a good, or not. Answers true");
        MaterialPassports x = Scene.some();
        Due.is("off, which it is", x.right(2, 0, false), true);
        Due.sees(x, 2, 0, 0, 0, 100, MASKED);
        Due.is("on", x.right(2, 0, true), true);
        Due.sees(x, 2, 0, 0, 0, 100, 10);
        Due.is("on again", x.right(2, 0, true), true);
        Due.sees(x, 2, 0, 0, 0, 100, 10);
        Due.is("off once", x.right(2, 0, false), true);
        Due.sees(x, 2, 0, 0, 0, 100, MASKED);
    }

    private static void ofOnePersonAndGood() {
        Due.sentence("A RIGHT lets a person 0 .. 7 see a good's parts one by one");
        for (int own = 0; own < 64; own++) {
            MaterialPassports x = Scene.full();
            x.right(7, 7, false);
            int person = own / 8;
            int good = 7 - own % 8;
            Due.is("right", x.right(person, good, true), true);
            for (int any = 0; any < 64; any++) {
                boolean has = any / 8 == person && any % 8 == good;
                String call = "seen(" + any / 8 + ", " + any % 8 + ", 0, 2)";
                Due.is(call, x.seen(any / 8, any % 8, 0, 2), has ? good : MASKED);
            }
        }
    }

    private static void beforePartsAreTold() {
        Due.sentence("A person has a right to see a good", "parts that are told later");
        MaterialPassports x = Scene.goods(1);
        Due.is("right", x.right(0, 0, true), true);
        x.part(0, 1, 5, 9);
        x.part(0, 1, 6, 8);
        Due.sees(x, 0, 0, 1, 1, 6, 8);
        Due.is("a new good", x.good(), 1);
        x.part(1, 2, 7, 7);
        Due.sees(x, 0, 1, 0, 2, 7, MASKED);
    }

    private static void persons() {
        Due.sentence("a person 0 .. 7 ... false when there are none such", "person");
        for (int person : Edge.inside(0, 7)) {
            MaterialPassports x = Scene.some();
            Due.is("person " + person, x.right(person, 2, true), true);
            Due.sees(x, person, 2, 0, 2, 11, 199);
        }
        for (int wrong : Edge.outside(0, 7)) {
            Refused.isFalse("person " + wrong + " on", Scene::some, x -> x.right(wrong, 0, true));
            Refused.isFalse("person " + wrong + " off", Scene::some, x -> x.right(wrong, 0, false));
        }
    }

    private static void goods() {
        Due.sentence("false when there are none such", "good");
        for (int good = 0; good < 3; good++) {
            Due.is("good " + good, Scene.some().right(1, good, true), true);
        }
        for (int wrong : Edge.outside(0, 2)) {
            Refused.isFalse("good " + wrong + " on", Scene::some, x -> x.right(0, wrong, true));
            Refused.isFalse("good " + wrong + " off", Scene::some, x -> x.right(7, wrong, false));
        }
        // good -1 of person 1 and good 8 of person 6 would be the rights of their neighbours
        Refused.isFalse("good -1", Scene::full, x -> x.right(1, -1, true));
        Refused.isFalse("good 8", Scene::full, x -> x.right(6, 8, true));
        MaterialPassports x = Scene.goods(3);
        Due.is("a good that comes later", x.right(4, 3, true), false);
        x.good();
        x.part(3, 0, 1, 1);
        Due.sees(x, 4, 3, 0, 0, 1, MASKED);
    }
}
