import java.math.BigInteger;
import java.util.ArrayDeque;
import java.util.ArrayList;
import java.util.Comparator;
import java.util.Deque;
import java.util.HashSet;
import java.util.List;
import java.util.Map;
import java.util.Set;
import java.util.TreeMap;

/** The document written a second time, with the library and by recursion, to compare answers with. */
final class Model {
    private static final BigInteger BOUND = BigInteger.TEN.pow(12);

    private static final class Stuff {
        final int kind;
        final long grams;

        Stuff(int kind, long grams) {
            this.kind = kind;
            this.grams = grams;
        }
    }

    private static final class Part {
        int number;
        Good owner;
        Good inner;
        int life;
        final TreeMap<Long, Stuff> byDay = new TreeMap<>();

        Stuff on(long day) {
            return byDay.floorEntry(day).getValue();
        }
    }

    private static final class Good {
        final List<Part> parts = new ArrayList<>();
        final Set<Integer> persons = new HashSet<>();
        int version = 0;

        boolean holds(Good sought) {
            return this == sought || parts.stream().anyMatch(p -> p.inner != null && p.inner.holds(sought));
        }

        long total(int kind, long day) {
            long sum = 0;
            for (Part p : parts) {
                sum += p.on(day).kind == kind ? p.on(day).grams : 0;
                sum += p.inner == null ? 0 : p.inner.total(kind, day);
            }
            return sum;
        }
    }

    private final List<Good> goods = new ArrayList<>();
    private final List<Part> parts = new ArrayList<>();
    private int changes = 0;
    private String text = "";
    private String[] formula = null;

    int good() {
        if (goods.size() == 8) {
            return -1;
        }
        goods.add(new Good());
        return goods.size() - 1;
    }

    int part(int good, int kind, long grams, int life) {
        if (parts.size() == 24 || none(goods, good) || out(kind, 4) || out(grams, 1000000000) || out(life, 200)) {
            return -1;
        }
        Part p = new Part();
        p.number = parts.size();
        p.owner = goods.get(good);
        p.life = life;
        p.byDay.put(-1L, new Stuff(kind, grams));
        p.owner.parts.add(p);
        p.owner.version++;
        parts.add(p);
        return p.number;
    }

    boolean into(int part, int inner) {
        if (none(parts, part) || none(goods, inner)) {
            return false;
        }
        Part p = parts.get(part);
        if (p.inner != null || goods.get(inner).holds(p.owner)) {
            return false;
        }
        p.inner = goods.get(inner);
        p.owner.version++;
        return true;
    }

    boolean life(int part, int years) {
        if (none(parts, part) || out(years, 200)) {
            return false;
        }
        parts.get(part).life = years;
        parts.get(part).owner.version++;
        return true;
    }

    boolean change(int part, long day, int kind, long grams) {
        if (changes == 20 || none(parts, part) || out(day, 100000) || out(kind, 4) || out(grams, 1000000000)) {
            return false;
        }
        changes++;
        parts.get(part).byDay.put(day, new Stuff(kind, grams));
        parts.get(part).owner.version++;
        return true;
    }

    long total(int good, int kind) {
        return totalOn(good, kind, 100000);
    }

    long totalOn(int good, int kind, long day) {
        return none(goods, good) || out(kind, 4) || out(day, 100000) ? -1 : goods.get(good).total(kind, day);
    }

    long frees(int kind, int years) {
        if (out(kind, 4) || out(years, 200)) {
            return -1;
        }
        return parts.stream().filter(p -> p.life == years).map(p -> p.on(100000))
                .filter(s -> s.kind == kind).mapToLong(s -> s.grams).sum();
    }

    int version(int good) {
        return none(goods, good) ? -1 : goods.get(good).version;
    }

    boolean right(int person, int good, boolean on) {
        if (out(person, 7) || none(goods, good)) {
            return false;
        }
        if (on) {
            goods.get(good).persons.add(person);
        } else {
            goods.get(good).persons.remove(person);
        }
        return true;
    }

    long seen(int person, int good, int k, int what) {
        if (out(person, 7) || none(goods, good) || none(goods.get(good).parts, k) || out(what, 2)) {
            return -1;
        }
        Good g = goods.get(good);
        Stuff stuff = g.parts.get(k).on(100000);
        boolean may = g.persons.contains(person);
        if (what == 0) {
            return stuff.kind;
        }
        if (what == 2) {
            return may ? g.parts.get(k).life : -2;
        }
        return may ? stuff.grams : g.parts.stream().map(p -> p.on(100000))
                .filter(s -> s.kind == stuff.kind).mapToLong(s -> s.grams).sum();
    }

    boolean unit(int u) {
        if (out(u, 255) || text.length() == 300) {
            return false;
        }
        text += (char) u;
        return true;
    }

    int score() {
        String told = text;
        text = "";
        List<String> words = new ArrayList<>(List.of(told.split("[ \n]")));
        words.removeIf(String::isEmpty);
        int depth = 0;
        for (int i = 0; i < words.size(); i++) {
            boolean joins = words.get(i).matches("[-+*]|min|max");
            if (!joins && !words.get(i).matches("[0-9]{1,6}|k[0-4]|n") || joins && depth < 2) {
                return -1 - i;
            }
            depth += joins ? -1 : 1;
        }
        if (depth != 1) {
            return -1 - words.size();
        }
        formula = words.toArray(new String[0]);
        return formula.length;
    }

    long scored(int good) {
        return formula == null || none(goods, good) ? Long.MIN_VALUE : value(goods.get(good));
    }

    int swap(int part, int kind) {
        if (formula == null || changes == 20 || none(parts, part) || out(kind, 4)) {
            return -1;
        }
        Part p = parts.get(part);
        TreeMap<Long, Stuff> kept = new TreeMap<>(p.byDay);
        long before = value(p.owner);
        p.byDay.put(100000L, new Stuff(kind, p.on(100000).grams));
        if (value(p.owner) > before) {
            changes++;
            p.owner.version++;
            return 1;
        }
        p.byDay.clear();
        p.byDay.putAll(kept);
        return 0;
    }

    int mark(int good, long key, int i) {
        if (none(goods, good) || out(i, 7)) {
            return -1;
        }
        long x = key;
        for (int kind = 0; kind < 5; kind++) {
            x = (x + goods.get(good).total(kind, 100000) + 1) * 6364136223846793005L;
            x ^= x >>> 32;
        }
        x = (x + goods.get(good).version) * 6364136223846793005L;
        return BigInteger.valueOf(x).shiftRight(56 - 8 * i).intValue() & 255;
    }

    int most(int k) {
        Map<Integer, Long> sums = new TreeMap<>();
        for (Part p : parts) {
            sums.merge(p.on(100000).kind, p.on(100000).grams, Long::sum);
        }
        List<Integer> kinds = new ArrayList<>(sums.keySet());
        kinds.removeIf(kind -> sums.get(kind) == 0);
        kinds.sort(Comparator.comparing((Integer kind) -> -sums.get(kind)).thenComparing(kind -> kind));
        return none(kinds, k) ? -1 : kinds.get(k);
    }

    private long value(Good good) {
        Deque<BigInteger> stack = new ArrayDeque<>();
        for (String word : formula) {
            if (word.matches("[0-9]+")) {
                stack.push(new BigInteger(word));
            } else if (word.equals("n")) {
                stack.push(BigInteger.valueOf(good.parts.size()));
            } else if (word.startsWith("k")) {
                stack.push(BigInteger.valueOf(share(good, word.charAt(1) - '0')));
            } else {
                BigInteger second = stack.pop();
                stack.push(join(word, stack.pop(), second));
            }
        }
        return stack.pop().longValueExact();
    }

    private static BigInteger join(String word, BigInteger a, BigInteger b) {
        if (word.equals("min")) {
            return a.min(b);
        }
        if (word.equals("max")) {
            return a.max(b);
        }
        BigInteger joined = word.equals("+") ? a.add(b) : word.equals("-") ? a.subtract(b) : a.multiply(b);
        return joined.min(BOUND).max(BOUND.negate());
    }

    private static long share(Good good, int kind) {
        long all = 0;
        for (int other = 0; other < 5; other++) {
            all += good.total(other, 100000);
        }
        return all == 0 ? 0 : 1000 * good.total(kind, 100000) / all;
    }

    private static boolean none(List<?> list, int number) {
        return number < 0 || number >= list.size();
    }

    private static boolean out(long value, long most) {
        return value < 0 || value > most;
    }
}
