import java.util.ArrayList;
import java.util.List;
import java.util.function.BiConsumer;
import java.util.function.Predicate;
import java.util.function.Supplier;
import java.util.function.ToLongFunction;

/**
 * "A call that is refused changes nothing.": makes the same object twice, calls the refused call on
 * one of them, and compares all that both answer then. Each look is on new objects, as no object is
 * to have more than 512 calls.
 */
final class Refused {
    private static final int[] YEARS = {0, 1, 5, 10, 199, 200};

    private Refused() {
    }

    static void none(String call, Supplier<MaterialPassports> scene, ToLongFunction<MaterialPassports> refused) {
        changesNothing(call, scene, refused, MaterialPassports.NONE);
    }

    static void isFalse(String call, Supplier<MaterialPassports> scene, Predicate<MaterialPassports> refused) {
        changesNothing(call, scene, x -> refused.test(x) ? 1 : 0, 0);
    }

    static void changesNothing(String call, Supplier<MaterialPassports> scene,
            ToLongFunction<MaterialPassports> refused, long answer) {
        List<BiConsumer<MaterialPassports, List<Long>>> looks = List.of(Refused::materials,
                Refused::passports, Refused::formula, Refused::roomOfText, Refused::rooms, Refused::inners);
        for (int look = 0; look < looks.size(); look++) {
            MaterialPassports untouched = scene.get();
            MaterialPassports tried = scene.get();
            Due.is(call, refused.applyAsLong(tried), answer);
            List<Long> before = new ArrayList<>();
            List<Long> after = new ArrayList<>();
            looks.get(look).accept(untouched, before);
            looks.get(look).accept(tried, after);
            Due.is(call + ", which changed nothing (look " + look + ")", before.equals(after), true);
        }
    }

    private static void materials(MaterialPassports x, List<Long> answers) {
        for (int good = 0; good < 8; good++) {
            answers.add((long) x.version(good));
            for (int kind = 0; kind < 5; kind++) {
                answers.add(x.total(good, kind));
                answers.add(x.totalOn(good, kind, 0));
                answers.add(x.totalOn(good, kind, 99999));
            }
        }
        for (int k = 0; k < 5; k++) {
            answers.add((long) x.most(k));
        }
    }

    private static void passports(MaterialPassports x, List<Long> answers) {
        for (int person = 0; person < 8; person++) {
            for (int good = 0; good < 8; good++) {
                answers.add(x.seen(person, good, 0, 2));
            }
        }
        for (int good = 0; good < 8; good++) {
            x.right(0, good, true);
            for (int k = 0; x.seen(0, good, k, 0) != MaterialPassports.NONE; k++) {
                answers.add(x.seen(0, good, k, 0));
                answers.add(x.seen(0, good, k, 1));
                answers.add(x.seen(0, good, k, 2));
            }
        }
        for (int years : YEARS) {
            for (int kind = 0; kind < 5; kind++) {
                answers.add(x.frees(kind, years));
            }
        }
    }

    private static void formula(MaterialPassports x, List<Long> answers) {
        for (int turn = 0; turn < 2; turn++) {
            for (int good = 0; good < 8; good++) {
                answers.add(x.scored(good));
            }
            // the text that was not read yet, made well if it is one of two numbers
            x.unit(' ');
            x.unit('-');
            answers.add((long) x.score());
        }
        answers.add(x.scored(0));
    }

    private static void roomOfText(MaterialPassports x, List<Long> answers) {
        long room = 0;
        while (x.unit('1')) {
            room++;
        }
        answers.add(room);
        answers.add((long) x.score());
    }

    private static void rooms(MaterialPassports x, List<Long> answers) {
        answers.add((long) x.good());
        answers.add((long) x.part(0, 0, 1, 1));
        long changes = 0;
        while (x.change(0, 100000, 4, changes)) {
            changes++;
        }
        answers.add(changes);
        answers.add(x.total(0, 4));
    }

    private static void inners(MaterialPassports x, List<Long> answers) {
        for (int part = 0; part < 24; part++) {
            for (int inner = 0; inner < 8; inner++) {
                answers.add(x.into(part, inner) ? 1L : 0L);
            }
        }
    }
}
