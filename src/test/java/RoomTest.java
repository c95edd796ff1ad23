import java.lang.management.ManagementFactory;
import java.lang.reflect.Array;
import java.lang.reflect.Field;
import java.lang.reflect.Modifier;
import java.util.ArrayDeque;
import java.util.Collections;
import java.util.Deque;
import java.util.IdentityHashMap;
import java.util.Set;

/** How much room an object takes, and that no call takes more: all runs live in one room. */
public final class RoomTest {
    private static final int CALLS = 512, MOST_OBJECTS = 100, MOST_PARTS = 1000, SLACK = 1024;
    private static final String TEXT = "n6;l20;t5 40 1;t4 50 2;t3 60 3;t2 9 1;t1 30 1;t0 20 1;";
    private static int wrong = 0;

    private static void must(boolean holds, String what) {
        if (!holds) {
            wrong++;
            System.out.println("not so: " + what);
        }
    }

    public static void main(String[] args) throws Exception {
        SpinTops x = new SpinTops();
        long[] first = roomOf(x);
        must(first[0] <= MOST_OBJECTS, "few objects: " + first[0]);
        must(first[1] <= MOST_PARTS, "few fields and elements: " + first[1]);
        // One that is not counted, so that the machine has loaded all it needs.
        use(new SpinTops());
        long taken = bytesTaken();
        use(x);
        taken = bytesTaken() - taken;
        must(taken <= SLACK, "no call makes an object: " + taken + " bytes were taken");
        long[] last = roomOf(x);
        must(last[0] == first[0] && last[1] == first[1], "no call keeps an object");
        System.out.println(wrong == 0 ? first[0] + " objects, " + first[1] + " fields and elements, and no more"
            : wrong + " things take too much room");
        if (wrong != 0) {
            System.exit(1);
        }
    }

    private static long bytesTaken() {
        com.sun.management.ThreadMXBean threads =
            (com.sun.management.ThreadMXBean) ManagementFactory.getThreadMXBean();
        return threads.getThreadAllocatedBytes(Thread.currentThread().getId());
    }

    /** Every call, refused or not, till the object's calls are used up. */
    private static void use(SpinTops x) {
        for (int i = 0; i < TEXT.length(); i++) {
            x.type(TEXT.charAt(i));
        }
        x.tray();
        int calls = TEXT.length() + 1;
        for (int round = 0; calls < CALLS; round++) {
            calls += ask(x, round) + act(x, round);
        }
    }

    private static int ask(SpinTops x, int round) {
        x.top(round % 7, 4);
        x.at(round);
        x.now(4);
        x.stand(60);
        x.whip(20, 60);
        x.row(5, round % 6);
        x.odds(round % 7, 5, 60, 0);
        x.drags(round % 4);
        x.look(60);
        x.rate(round % 7, round % 6);
        x.count(round % 6);
        x.trace();
        return 12;
    }

    private static int act(SpinTops x, int round) {
        x.beats();
        x.whips(round % 6, 20);
        x.tilts(round % 4);
        x.sets(round % 6, round % 7);
        x.beats();
        x.undo();
        x.sees(60, 1, 60 - round % 3);
        x.keep(round % 3);
        x.back(round % 5);
        x.type('x');
        x.tray();
        x.clear();
        if (round % 8 == 7) {
            x.forget();
        }
        return 13;
    }

    /** Objects and arrays that can be reached, and their fields and elements. */
    private static long[] roomOf(Object from) throws IllegalAccessException {
        Set<Object> met = Collections.newSetFromMap(new IdentityHashMap<>());
        Deque<Object> left = new ArrayDeque<>();
        left.add(from);
        met.add(from);
        long parts = 0;
        while (!left.isEmpty()) {
            Object one = left.removeFirst();
            parts += one.getClass().isArray() ? elements(one, met, left) : fields(one, met, left);
        }
        return new long[] {met.size(), parts};
    }

    private static int elements(Object array, Set<Object> met, Deque<Object> left) {
        int length = Array.getLength(array);
        for (int i = 0; i < length && !array.getClass().getComponentType().isPrimitive(); i++) {
            reach(Array.get(array, i), met, left);
        }
        return length;
    }

    private static int fields(Object one, Set<Object> met, Deque<Object> left) throws IllegalAccessException {
        int many = 0;
        for (Field field : one.getClass().getDeclaredFields()) {
            if (Modifier.isStatic(field.getModifiers())) {
                continue;
            }
            many++;
            if (!field.getType().isPrimitive()) {
                field.setAccessible(true);
                reach(field.get(one), met, left);
            }
        }
        return many;
    }

    private static void reach(Object one, Set<Object> met, Deque<Object> left) {
        if (one != null && met.add(one)) {
            left.add(one);
        }
    }
}
