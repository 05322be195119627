import java.util.Random;

/**
 * Runs of 512 calls, the same each time, on the class and on a plainer model; all answers must be
 * the same, and none may throw.
 */
public final class ModelTest {
    private static final int RUNS = 3000;
    private static final int CALLS = 512;
    private static final String[] WORDS = {"k0", "k1", "k2", "k3", "k4", "n", "+", "-", "*", "min", "max",
        "7", "0", "1", "999999", "500000", "k5", "x", "1000000", "min2"};
    private static final int[] ODD_INTS = {-1, 5, 8, 24, 201, 256, Integer.MIN_VALUE, Integer.MAX_VALUE, 65536};
    private static final long[] ODD_LONGS = {-1, 100000, 100001, 1000000000L, 1000000001L, Long.MIN_VALUE,
        Long.MAX_VALUE, 1L << 32};

    private final Random random;
    private final MaterialPassports real = new MaterialPassports();
    private final Model model = new Model();
    private String waiting = "";

    private ModelTest(long seed) {
        random = new Random(seed);
    }

    public static void main(String[] args) {
        for (int run = 0; run < RUNS; run++) {
            new ModelTest(run).run("run " + run + ": ");
        }
        Due.end();
    }

    private void run(String name) {
        for (int call = 0; call < CALLS; call++) {
            int which = call < 6 ? 0 : random.nextInt(60);
            if (!waiting.isEmpty()) {
                int u = waiting.charAt(0);
                waiting = waiting.substring(1);
                Due.is(name + "unit " + u, real.unit(u), model.unit(u));
                if (waiting.isEmpty()) {
                    Due.is(name + "score", real.score(), model.score());
                    call++;
                }
            } else if (which < 24) {
                tell(name, which);
            } else {
                ask(name, which);
            }
        }
    }

    private void tell(String name, int which) {
        int g = number(8);
        int p = number(24);
        int kind = number(5);
        long grams = grams();
        if (which == 0) {
            Due.is(name + "good", real.good(), model.good());
        } else if (which < 7) {
            int life = number(4);
            Due.is(name + "part", real.part(g, kind, grams, life), model.part(g, kind, grams, life));
        } else if (which < 12) {
            Due.is(name + "into", real.into(p, g), model.into(p, g));
        } else if (which < 14) {
            int life = number(4);
            Due.is(name + "life", real.life(p, life), model.life(p, life));
        } else if (which < 17) {
            long day = day();
            Due.is(name + "change", real.change(p, day, kind, grams), model.change(p, day, kind, grams));
        } else if (which < 19) {
            int person = number(8);
            boolean on = random.nextInt(3) > 0;
            Due.is(name + "right", real.right(person, g, on), model.right(person, g, on));
        } else if (which < 21) {
            waiting = text();
        } else {
            Due.is(name + "swap", real.swap(p, kind), model.swap(p, kind));
        }
    }

    private void ask(String name, int which) {
        int g = number(8);
        int kind = number(5);
        if (which < 29) {
            Due.is(name + "total", real.total(g, kind), model.total(g, kind));
        } else if (which < 34) {
            long day = day();
            Due.is(name + "totalOn", real.totalOn(g, kind, day), model.totalOn(g, kind, day));
        } else if (which < 38) {
            int years = number(4);
            Due.is(name + "frees", real.frees(kind, years), model.frees(kind, years));
        } else if (which < 41) {
            Due.is(name + "version", real.version(g), model.version(g));
        } else if (which < 48) {
            int person = number(8);
            int k = number(6);
            int what = number(3);
            Due.is(name + "seen", real.seen(person, g, k, what), model.seen(person, g, k, what));
        } else if (which < 53) {
            Due.is(name + "scored", real.scored(g), model.scored(g));
        } else if (which < 56) {
            long key = random.nextLong();
            int i = number(8);
            Due.is(name + "mark", real.mark(g, key, i), model.mark(g, key, i));
        } else {
            Due.is(name + "most", real.most(kind), model.most(kind));
        }
    }

    private int number(int below) {
        return random.nextInt(40) == 0 ? ODD_INTS[random.nextInt(ODD_INTS.length)] : random.nextInt(below);
    }

    private long grams() {
        if (random.nextInt(30) == 0) {
            return ODD_LONGS[random.nextInt(ODD_LONGS.length)];
        }
        return random.nextInt(4) == 0 ? random.nextInt(1000000001) : random.nextInt(4);
    }

    private long day() {
        if (random.nextInt(10) == 0) {
            return ODD_LONGS[random.nextInt(ODD_LONGS.length)];
        }
        return random.nextInt(5);
    }

    /** Mostly a well formula: values pushed while few stand, joined while many do. */
    private String text() {
        if (random.nextInt(4) == 0) {
            return wildText();
        }
        StringBuilder text = new StringBuilder();
        int depth = 0;
        int left = 1 + random.nextInt(8);
        while (left > 0 || depth > 1) {
            boolean joins = depth > 1 && (left == 0 || random.nextBoolean());
            text.append(WORDS[joins ? 6 + random.nextInt(5) : plainWord()]).append(random.nextInt(9) == 0 ? "\n" : " ");
            depth += joins ? -1 : 1;
            left -= joins ? 0 : 1;
        }
        return text.toString();
    }

    private int plainWord() {
        int word = random.nextInt(11);
        return word < 6 ? word : word + 5;
    }

    private String wildText() {
        StringBuilder text = new StringBuilder(" ");
        int words = random.nextInt(6);
        for (int i = 0; i < words; i++) {
            text.append(WORDS[random.nextInt(WORDS.length)]).append(random.nextInt(9) == 0 ? "" : " ");
        }
        return text.toString();
    }
}
