import com.sun.management.ThreadMXBean;
import java.lang.management.ManagementFactory;
import java.lang.reflect.Array;
import java.lang.reflect.Field;
import java.lang.reflect.Modifier;
import java.util.ArrayDeque;
import java.util.Collections;
import java.util.IdentityHashMap;
import java.util.Set;

/** The room that all calls of one run share: what an object takes when it is made, and that no call takes any more. */
public final class RoomTest {
    private static final int MOST_OBJECTS = 600_000;
    private static final int MOST_FIELDS = 7_300_000;
    // What a few dozen objects in one run may take is a small part of the room.
    private static final int SHARE = 40;
    private static final String TEXT = "<!DOCTYPE a [<!ELEMENT a ((b,c?)*|(d+,e))><!ELEMENT b (#PCDATA|c|c)*>"
            + "<!ATTLIST a x ID #REQUIRED y (p|q) 'r' z CDATA #FIXED 'v'>]><a x='1' z='w'>one &lt; <B keep='1'>two three</B>"
            + "<b x='1'/><a y='s' x='1'><!--c-->fourfivesix</a></a>";
    private static final String PATH = "//*[@x='1'][last()]/..//text()[.='two three']";

    private long objects = 0;
    private long fields = 0;

    public static void main(String[] args) throws IllegalAccessException {
        made();
        called();
        Desk.end();
    }

    private static void made() throws IllegalAccessException {
        RoomTest room = new RoomTest();
        room.measure(new TreePress());
        Desk.due("whether few objects are made: " + room.objects, room.objects < MOST_OBJECTS / SHARE ? 1 : 0, 1);
        Desk.due("whether few fields are made: " + room.fields, room.fields < MOST_FIELDS / SHARE ? 1 : 0, 1);
    }

    private void measure(Object first) throws IllegalAccessException {
        Set<Object> seen = Collections.newSetFromMap(new IdentityHashMap<>());
        ArrayDeque<Object> open = new ArrayDeque<>();
        open.add(first);
        while (!open.isEmpty()) {
            Object next = open.remove();
            if (seen.add(next)) {
                objects++;
                if (next.getClass().isArray()) {
                    fields += Array.getLength(next);
                } else {
                    measureFields(next, open);
                }
            }
        }
    }

    private void measureFields(Object next, ArrayDeque<Object> open) throws IllegalAccessException {
        for (Field field : next.getClass().getDeclaredFields()) {
            if (!Modifier.isStatic(field.getModifiers())) {
                fields++;
                field.setAccessible(true);
                if (!field.getType().isPrimitive() && field.get(next) != null) {
                    open.add(field.get(next));
                }
            }
        }
    }

    /** The calls of a whole run, after one that has loaded what the machine needs. */
    private static void called() {
        ThreadMXBean threads = (ThreadMXBean) ManagementFactory.getThreadMXBean();
        int[] text = numbers(TEXT);
        int[] path = numbers(PATH);
        run(new TreePress(), text, path);
        TreePress press = new TreePress();
        long before = threads.getCurrentThreadAllocatedBytes();
        int answers = run(press, text, path);
        long taken = threads.getCurrentThreadAllocatedBytes() - before;
        Desk.due("calls that were answered as they should", answers, 25);
        Desk.due("whether calls make no objects: bytes " + taken, taken < 1000 ? 1 : 0, 1);
    }

    private static int[] numbers(String text) {
        int[] all = new int[(text.length() + 19) / 20 * 5];
        for (int i = 0; i < all.length; i++) {
            all[i] = Desk.number(text, 4 * i);
        }
        return all;
    }

    private static void feed(TreePress press, int[] text) {
        for (int i = 0; i + 4 < text.length; i += 5) {
            press.feed(text[i], text[i + 1], text[i + 2], text[i + 3], text[i + 4]);
        }
    }

    private static int run(TreePress press, int[] text, int[] path) {
        int answers = 0;
        for (int turn = 0; turn < 5; turn++) {
            feed(press, text);
            answers += press.read(TEXT.length()) > 0 ? 1 : 0;
            feed(press, path);
            answers += press.select(0, PATH.length()) == 1 ? 1 : 0;
            answers += press.set(1 + turn, 2) > 0 ? 1 : 0;
            feed(press, text);
            answers += press.read(turn) == -1 ? 1 : 0;
            feed(press, path);
            answers += press.select(0, 2) == -1 ? 1 : 0;
            for (int what = 0; what < 7; what++) {
                press.node(1, what);
                press.line(0, what);
                press.finding(what, 1);
                press.count(what);
            }
            press.findings();
            press.place();
            press.told(0);
            press.name(1, 0);
            press.string(1, 0);
            press.at(0, 0);
        }
        return answers;
    }
}
