import java.lang.reflect.Array;
import java.lang.reflect.Field;
import java.lang.reflect.Modifier;

/** All that an object holds is made with it and is little, so that many calls leave room. */
final class RoomTest {
    private static final int MOST_OBJECTS = 40;
    private static final int MOST_ELEMENTS = 4000;

    private int objects;
    private int elements;

    private RoomTest() {
    }

    public static void main(String[] args) throws Exception {
        RowPages store = new RowPages();
        RoomTest fresh = measure(store);
        Check.same("few objects: " + fresh.objects, fresh.objects <= MOST_OBJECTS, true);
        Check.same("few fields and elements: " + fresh.elements, fresh.elements <= MOST_ELEMENTS, true);
        use(store);
        RoomTest used = measure(store);
        Check.same("no object more behind many calls", used.objects, fresh.objects);
        Check.same("no element more behind many calls", used.elements, fresh.elements);
        Check.finish();
    }

    private static void use(RowPages store) {
        for (int time = 0; time < 20; time++) {
            int own = store.begin();
            Steps.write(store, own, time % 6, 20);
            store.delete(own, time % 6);
            store.end(own, time % 2 == 0);
            for (int page = 0; page < 4; page++) {
                store.clean(page);
            }
        }
    }

    private static RoomTest measure(RowPages store) throws IllegalAccessException {
        RoomTest room = new RoomTest();
        room.count(store);
        return room;
    }

    /** The class has no object that two others hold, so each is met once. */
    private void count(Object object) throws IllegalAccessException {
        objects++;
        if (object.getClass().isArray()) {
            countElements(object);
            return;
        }
        for (Field field : object.getClass().getDeclaredFields()) {
            if (!Modifier.isStatic(field.getModifiers())) {
                elements++;
                field.setAccessible(true);
                countInside(field.getType(), field.get(object));
            }
        }
    }

    private void countElements(Object array) throws IllegalAccessException {
        for (int place = 0; place < Array.getLength(array); place++) {
            elements++;
            countInside(array.getClass().getComponentType(), Array.get(array, place));
        }
    }

    private void countInside(Class<?> type, Object value) throws IllegalAccessException {
        if (!type.isPrimitive() && value != null) {
            count(value);
        }
    }
}
