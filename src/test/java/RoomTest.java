import com.sun.management.ThreadMXBean;
import java.lang.management.ManagementFactory;
import java.lang.reflect.Array;
import java.lang.reflect.Field;
import java.lang.reflect.Modifier;
import java.util.ArrayDeque;
import java.util.Collections;
import java.util.Deque;
import java.util.IdentityHashMap;
import java.util.Set;

/** A run has one room for all objects: a new one takes little of it, and calls take none. */
public final class RoomTest {
    // The room has some 600,000 objects and 7.3 million fields: a thousand objects of the class must find place.
    private static final int MOST_OBJECTS = 600;
    private static final int MOST_FIELDS = 7300;

    private static final Check check = new Check();

    public static void main(String[] args) throws Exception {
        aNewObjectIsSmall();
        callsMakeNothing();
        check.end();
    }

    private static void aNewObjectIsSmall() throws IllegalAccessException {
        Set<Object> met = Collections.newSetFromMap(new IdentityHashMap<>());
        Deque<Object> open = new ArrayDeque<>();
        meet(new SilentLetters(), met, open);
        int fields = 0;
        while (!open.isEmpty()) {
            fields += fieldsOf(open.pop(), met, open);
        }
        check.is("a new object is of some objects: " + met.size(), met.size() > 10, true);
        check.is("a new object is of few objects: " + met.size(), met.size() <= MOST_OBJECTS, true);
        check.is("a new object has few fields: " + fields, fields <= MOST_FIELDS, true);
    }

    private static void meet(Object object, Set<Object> met, Deque<Object> open) {
        if (object != null && met.add(object)) {
            open.push(object);
        }
    }

    private static int fieldsOf(Object object, Set<Object> met, Deque<Object> open) throws IllegalAccessException {
        Class<?> type = object.getClass();
        if (type.isArray()) {
            for (int i = 0; i < Array.getLength(object) && !type.getComponentType().isPrimitive(); i++) {
                meet(Array.get(object, i), met, open);
            }
            return Array.getLength(object);
        }
        int fields = 0;
        for (Field field : type.getDeclaredFields()) {
            if (!Modifier.isStatic(field.getModifiers())) {
                fields++;
                field.setAccessible(true);
                if (!field.getType().isPrimitive()) {
                    meet(field.get(object), met, open);
                }
            }
        }
        return fields;
    }

    private static void callsMakeNothing() {
        ThreadMXBean threads = (ThreadMXBean) ManagementFactory.getThreadMXBean();
        SilentLetters x = new SilentLetters();
        // The first time round the machine itself makes things, as it loads what it needs.
        everyCall(x);
        long least = Long.MAX_VALUE;
        for (int time = 0; time < 5; time++) {
            long before = threads.getCurrentThreadAllocatedBytes();
            everyCall(x);
            least = Math.min(least, threads.getCurrentThreadAllocatedBytes() - before);
        }
        long before = threads.getCurrentThreadAllocatedBytes();
        long byLooking = threads.getCurrentThreadAllocatedBytes() - before;
        check.is("bytes that all calls make", least, byLooking);
    }

    private static void tell(SilentLetters x, int first, int second, int n) {
        x.end(0);
        x.sign(first);
        x.sign(second);
        x.end(n);
    }

    private static void everyCall(SilentLetters x) {
        // Hab;ab, as long as there is room for it
        tell(x, 0x4861623b, 0x61620000, 6);
        x.words();
        // m-u+4
        tell(x, 0x6d2d752b, 0x34000000, 5);
        x.rule();
        x.word(0, 4);
        x.at(0, 0);
        x.letter(7, 5);
        x.sheet(2, 8, 5, 0);
        // n9oa1x01
        tell(x, 0x6e396f61, 0x31783031, 8);
        x.year();
        x.days(3);
        x.offer(7, 1);
        x.stirs(1, 1);
        x.mutes(0, 1);
        x.undo();
        x.keep(0);
        x.again(0);
        looks(x);
        asks(x);
    }

    private static void looks(SilentLetters x) {
        x.looks(0, 128);
        x.kinds(128);
        x.apart(0, 1);
        x.chain(0, 1, 8);
        x.ahead(99);
        x.falls();
        x.when(7);
        x.shared(0, 1);
        x.crossest();
        x.must(3);
        x.most();
        x.joins(0, 1);
        x.safe();
        x.parts(0, 1);
    }

    private static void asks(SilentLetters x) {
        x.noticed(0, 1, 1);
        x.fits();
        x.next();
        x.forget();
        x.calms();
        x.buys(99);
        x.power(7);
        x.misread(0, 1, 3);
        x.game(60, 3, 4);
        // 9-i*(o<m)
        tell(x, 0x392d692a, 0x286f3c6d, 8);
        x.law();
        tell(x, 0x392d692a, 0x286f3c6d, 3);
        x.law();
        x.rests(20);
        x.years(1, 60);
        x.count(6);
        x.row(1);
    }
}
