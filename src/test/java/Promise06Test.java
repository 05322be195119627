/** Promise 6: change. */
public final class Promise06Test {
    private static final long MOST_GRAMS = 1000000000L;

    public static void main(String[] args) {
        fromItsDayOn();
        eachPart();
        byDays();
        sameDay();
        lifeAndInnerStay();
        parts();
        days();
        kinds();
        grams();
        twentyOfOnePart();
        twentyOfAllParts();
        refusedTakesNoRoom();
        Due.end();
    }

    /** Good 0 with part 0: kind 0, 100 grams. */
    private static MaterialPassports onePart() {
        return Scene.oneGood(100);
    }

    private static void isOn(MaterialPassports x, long day, int kind, long grams) {
        for (int other = 0; other < 5; other++) {
            Due.is("totalOn(0, " + other + ", " + day + ")", x.totalOn(0, other, day), other == kind ? grams : 0);
        }
    }

    private static void fromItsDayOn() {
        Due.sentence("CHANGES tell of a part, by days, what it is from that day on: another kind and other grams");
        MaterialPassports x = onePart();
        Due.is("change", x.change(0, 50, 1, 200), true);
        isOn(x, 0, 0, 100);
        isOn(x, 49, 0, 100);
        isOn(x, 50, 1, 200);
        isOn(x, 51, 1, 200);
        isOn(x, 100000, 1, 200);
        Due.is("the same kind, other grams", x.change(0, 60, 1, 7), true);
        isOn(x, 60, 1, 7);
        Due.is("another kind, the same grams", x.change(0, 70, 2, 7), true);
        isOn(x, 70, 2, 7);
    }

    private static void byDays() {
        Due.sentence("A part's changes stand by days");
        MaterialPassports x = onePart();
        x.change(0, 50, 1, 200);
        x.change(0, 10, 2, 300);
        x.change(0, 30, 3, 400);
        x.change(0, 0, 4, 500);
        isOn(x, 0, 4, 500);
        isOn(x, 9, 4, 500);
        isOn(x, 10, 2, 300);
        isOn(x, 29, 2, 300);
        isOn(x, 30, 3, 400);
        isOn(x, 49, 3, 400);
        isOn(x, 50, 1, 200);
        Due.totals(x, 0, 0, 200, 0, 0, 0);
    }

    private static void sameDay() {
        Due.sentence("of the same day the one told last counts");
        MaterialPassports x = onePart();
        x.change(0, 50, 1, 200);
        x.change(0, 20, 2, 300);
        x.change(0, 50, 3, 400);
        x.change(0, 10, 2, 1);
        isOn(x, 49, 2, 300);
        isOn(x, 50, 3, 400);
        x.change(0, 20, 4, 5);
        isOn(x, 19, 2, 1);
        isOn(x, 20, 4, 5);
        isOn(x, 50, 3, 400);
        x.change(0, 100000, 1, 8);
        x.change(0, 100000, 0, 9);
        isOn(x, 99999, 3, 400);
        isOn(x, 100000, 0, 9);
        x.change(0, 0, 1, 8);
        x.change(0, 0, 0, 9);
        isOn(x, 0, 0, 9);
    }

    private static void lifeAndInnerStay() {
        Due.sentence("another kind and other grams", "no more than these");
        MaterialPassports x = Scene.some();
        Due.is("change", x.change(0, 0, 2, 33), true);
        Due.totals(x, 0, 0, 0, 33, 310, 67);
        Due.is("its life", x.frees(2, 10), 33);
        Due.is("it has an inner good", x.into(0, 2), false);
    }

    private static void parts() {
        Due.sentence("One more change of a part ... or these are not such", "part");
        MaterialPassports x = Scene.some();
        Due.is("part 0", x.change(0, 1, 0, 1), true);
        Due.is("part 5, the last", x.change(5, 1, 0, 1), true);
        for (int wrong : Edge.outside(0, 5)) {
            Refused.isFalse("part " + wrong, Scene::some, y -> y.change(wrong, 1, 0, 1));
        }
    }

    private static void days() {
        Due.sentence("from a day 0 .. 100000 on. Answers true ... or these are not such", "day");
        for (long day : Edge.insideLongs(0, 100000)) {
            MaterialPassports x = onePart();
            Due.is("day " + day, x.change(0, day, 3, 5), true);
            isOn(x, day, 3, 5);
            isOn(x, 100000, 3, 5);
            if (day > 0) {
                isOn(x, day - 1, 0, 100);
            }
        }
        for (long wrong : Edge.outsideLongs(0, 100000)) {
            Refused.isFalse("day " + wrong, Scene::some, x -> x.change(0, wrong, 1, 1));
        }
    }

    private static void kinds() {
        Due.sentence("of a KIND 0 .. 4 ... or these are not such", "kind");
        for (int kind = 0; kind <= 4; kind++) {
            MaterialPassports x = onePart();
            Due.is("kind " + kind, x.change(0, 3, kind, 5), true);
            isOn(x, 3, kind, 5);
        }
        for (int wrong : Edge.outside(0, 4)) {
            Refused.isFalse("kind " + wrong, Scene::some, x -> x.change(0, 3, wrong, 1));
        }
    }

    private static void grams() {
        Due.sentence("grams 0 .. 1000000000 ... or these are not such", "grams");
        for (long grams : Edge.insideLongs(0, MOST_GRAMS)) {
            MaterialPassports x = onePart();
            Due.is("grams " + grams, x.change(0, 3, 1, grams), true);
            isOn(x, 3, 1, grams);
            Due.is("version", x.version(0), 2);
        }
        for (long wrong : Edge.outsideLongs(0, MOST_GRAMS)) {
            Refused.isFalse("grams " + wrong, Scene::some, x -> x.change(0, 3, 1, wrong));
        }
    }

    private static MaterialPassports changedTimes(int times) {
        MaterialPassports x = onePart();
        for (int i = 0; i < times; i++) {
            Due.is("change " + i, x.change(0, i, 1, i), true);
        }
        return x;
    }

    private static void twentyOfOnePart() {
        Due.sentence("false when there are 20");
        MaterialPassports x = changedTimes(19);
        isOn(x, 100000, 1, 18);
        Due.is("the 20th", x.change(0, 19, 1, 19), true);
        Due.is("the 21st", x.change(0, 20, 1, 20), false);
        Due.is("the 21st, of a day that has one", x.change(0, 19, 1, 20), false);
        isOn(x, 100000, 1, 19);
        isOn(x, 0, 1, 0);
        Due.is("version", x.version(0), 21);
        Refused.isFalse("the 21st", () -> changedTimes(20), y -> y.change(0, 5, 4, 4));
    }

    private static void twentyOfAllParts() {
        Due.sentence("20 of all parts at most");
        MaterialPassports x = Scene.goods(2);
        for (int number = 0; number < 24; number++) {
            x.part(number % 2, 0, 1, 1);
        }
        for (int number = 0; number < 20; number++) {
            Due.is("change of part " + number, x.change(number, 5, 1, 1), true);
        }
        for (int number = 0; number < 24; number++) {
            Due.is("one more of part " + number, x.change(number, 5, 2, 1), false);
        }
        Due.totals(x, 0, 2, 10, 0, 0, 0);
        Due.totals(x, 1, 2, 10, 0, 0, 0);
        Refused.isFalse("the 21st", Scene::full, y -> y.change(23, 5, 4, 4));
    }

    private static void refusedTakesNoRoom() {
        Due.sentence("A call that is refused changes nothing", "the room for changes");
        MaterialPassports x = onePart();
        for (int i = 0; i < 20; i++) {
            Due.is("part", x.change(1, 5, 0, 1), false);
            Due.is("day", x.change(0, 100001, 0, 1), false);
            Due.is("kind", x.change(0, 5, 5, 1), false);
            Due.is("grams", x.change(0, 5, 0, -1), false);
            Due.is("change " + i, x.change(0, 5, 1, i), true);
        }
        isOn(x, 5, 1, 19);
        Due.is("version", x.version(0), 21);
    }

    private static void eachPart() {
        Due.sentence("CHANGES tell of a part", "of each, and of no other");
        for (int first = 0; first <= 4; first += 4) {
            MaterialPassports x = Scene.goods(8);
            for (int number = 0; number < 24; number++) {
                x.part(number % 8, 0, number, 1);
            }
            for (int good = 0; good < 8; good++) {
                x.right(0, good, true);
            }
            for (int number = first; number < first + 20; number++) {
                Due.is("before", x.seen(0, number % 8, number / 8, 0), 0);
                Due.is("change", x.change(number, 100000 - number, 1 + number % 4, 50 + number), true);
            }
            for (int number = 0; number < 24; number++) {
                boolean told = number >= first && number < first + 20;
                Due.sees(x, 0, number % 8, number / 8, told ? 1 + number % 4 : 0, told ? 50 + number : number, 1);
            }
        }
    }
}
