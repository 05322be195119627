import com.sun.management.ThreadMXBean;
import java.lang.management.ManagementFactory;
import java.lang.reflect.Array;
import java.lang.reflect.Field;
import java.lang.reflect.Modifier;

/** All calls of a run live in one room: an object is small, and its calls make no other. */
public final class RoomTest {
    private static final int OBJECTS = 5000;
    private static final int ROUNDS = 30;
    private static final String TEXT = "k1 n + 2 *";
    // far less than one object for each call would be
    private static final long FEW_BYTES = 100000;

    private int objects = 0;
    private int elements = 0;

    public static void main(String[] args) throws IllegalAccessException {
        anObjectIsSmall();
        callsMakeNone();
        Due.end();
    }

    private static void anObjectIsSmall() throws IllegalAccessException {
        RoomTest room = new RoomTest();
        room.count(new MaterialPassports());
        Due.is(room.objects + " objects and arrays are fewer than 30", room.objects < 30, true);
        Due.is(room.elements + " fields and elements are fewer than 1200", room.elements < 1200, true);
    }

    /** No object stands in two places of another one, so that none is counted twice. */
    private void count(Object object) throws IllegalAccessException {
        objects++;
        if (object.getClass().isArray()) {
            elements += Array.getLength(object);
            return;
        }
        for (Field field : object.getClass().getDeclaredFields()) {
            if (!Modifier.isStatic(field.getModifiers())) {
                elements++;
                field.setAccessible(true);
                if (!field.getType().isPrimitive()) {
                    count(field.get(object));
                }
            }
        }
    }

    private static void callsMakeNone() {
        ThreadMXBean threads = (ThreadMXBean) ManagementFactory.getThreadMXBean();
        MaterialPassports[] all = new MaterialPassports[OBJECTS];
        for (int at = 0; at < OBJECTS; at++) {
            all[at] = new MaterialPassports();
        }
        long before = threads.getCurrentThreadAllocatedBytes();
        for (int at = 0; at < OBJECTS; at++) {
            for (int round = 0; round < ROUNDS; round++) {
                callEach(all[at], at + round);
            }
        }
        long made = threads.getCurrentThreadAllocatedBytes() - before;
        Due.is(made + " bytes are few", made < FEW_BYTES, true);
    }

    private static void callEach(MaterialPassports x, int i) {
        x.good();
        x.part(i % 9, i % 6, i, i % 202);
        x.into(i % 25, i % 9);
        x.life(i % 25, i % 202);
        x.change(i % 11, i, i % 6, i);
        x.total(i % 9, i % 6);
        x.totalOn(i % 9, i % 6, i);
        x.frees(i % 6, i % 202);
        x.version(i % 9);
        x.right(i % 9, i % 9, i % 2 == 0);
        x.seen(i % 9, i % 9, i % 4, i % 4);
        x.unit(TEXT.charAt(i % TEXT.length()));
        if (i % TEXT.length() == TEXT.length() - 1) {
            x.score();
        }
        x.scored(i % 9);
        x.swap(i % 25, i % 5);
        x.mark(i % 9, i, i % 9);
        x.most(i % 6);
    }
}
