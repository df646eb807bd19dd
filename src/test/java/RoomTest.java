import java.lang.reflect.Array;
import java.lang.reflect.Field;
import java.lang.reflect.Modifier;
import java.util.ArrayDeque;
import java.util.Collections;
import java.util.Deque;
import java.util.IdentityHashMap;
import java.util.Set;

/** What one SlipperDuke takes of the room in which all calls of a run live: counted when new, and again behind 512 calls. */
public final class RoomTest {
    /** Some 600,000 objects and 7.3 million fields and elements are there: a run may make 2,500 dukes. */
    private static final int MOST_OBJECTS = 240, MOST_ELEMENTS = 2900;
    private static final String LARGEST = "s27;r4 0;r3 1;r2 0;r1 1;r7 0;r0 0;r9 1;r5 0;d0 1;d1 2;d2 3;d3 0;d2 4;d4 5;d5 6;d6 7;d7 0;d1 5;d2 6;d3 7;"
        + "p0 1;p1 10;p2 20;p4 30;p6 50;p7 99;";
    private static int wrong = 0;

    private static void due(String what, boolean holds) {
        if (!holds) {
            wrong++;
            System.out.println(what);
        }
    }

    /** How many objects, fields and elements hang together, from this one on. */
    private record Size(int objects, int elements) {
        static Size of(Object first) throws IllegalAccessException {
            Set<Object> seen = Collections.newSetFromMap(new IdentityHashMap<>());
            Deque<Object> open = new ArrayDeque<>();
            open.add(first);
            int elements = 0;
            while (!open.isEmpty()) {
                Object next = open.remove();
                if (seen.add(next)) elements += next.getClass().isArray() ? array(next, open) : fields(next, open);
            }
            return new Size(seen.size(), elements);
        }

        private static int array(Object row, Deque<Object> open) {
            int length = Array.getLength(row);
            for (int i = 0; i < length && !row.getClass().getComponentType().isPrimitive(); i++) open.add(Array.get(row, i));
            return length;
        }

        private static int fields(Object object, Deque<Object> open) throws IllegalAccessException {
            int count = 0;
            for (Field field : object.getClass().getDeclaredFields()) {
                if (Modifier.isStatic(field.getModifiers())) continue;
                field.setAccessible(true);
                count++;
                if (!field.getType().isPrimitive() && field.get(object) != null) open.add(field.get(object));
            }
            return count;
        }
    }

    /** Calls of every kind until 512 are made: the text alone takes 139 of them. */
    private static void use(SlipperDuke x) {
        for (int i = 0; i < LARGEST.length(); i++) x.feed(LARGEST.charAt(i));
        due("palace() of the largest text", x.palace() == 8);
        for (int i = 0; i < 16; i++) {
            x.hour(60);
            x.drift(60);
            x.carpet(i % 8, i % 2 == 0);
            x.noise(i % 8, i % 10);
            x.nail(i % 8, i % 3 == 0);
            x.brick(i % 12, i % 4 == 0);
            x.chalk(i % 6, i % 8);
            x.teach(i);
            x.write(i % 8, i);
            x.keep(i % 2);
            x.goBack(i % 2);
            x.sole();
            x.carpets(i % 8, 20);
            x.bricks(i % 8);
            x.quietest(i % 8);
            x.tells();
            x.fit(-1);
            x.teachFor(12345678);
            x.otherwise(i);
            x.undo();
        }
    }

    public static void main(String[] args) throws IllegalAccessException {
        SlipperDuke x = new SlipperDuke();
        Size made = Size.of(x);
        use(x);
        Size used = Size.of(x);
        due("objects: " + made.objects() + ", at most " + MOST_OBJECTS, made.objects() <= MOST_OBJECTS);
        due("fields and elements: " + made.elements() + ", at most " + MOST_ELEMENTS, made.elements() <= MOST_ELEMENTS);
        due("new: " + made + ", used: " + used, made.equals(used));
        System.out.println(wrong == 0 ? made.objects() + " objects, " + made.elements() + " fields and elements" : wrong + " counts are not as due");
        if (wrong != 0) System.exit(1);
    }
}
