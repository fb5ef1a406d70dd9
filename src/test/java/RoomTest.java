import java.lang.reflect.Array;
import java.lang.reflect.Field;
import java.lang.reflect.Modifier;
import java.util.IdentityHashMap;
import java.util.Map;

/** The room that objects take up, and answers of calls that need more of it than an object begins with. */
public final class RoomTest {
    private static final Checks checks = new Checks();
    private static final long OBJECTS = 600_000;
    private static final long ELEMENTS = 7_300_000;
    private static final int CALLS = 512;

    // Each a needs a copy of its type, as one more type variable is open there.
    private static final String MANY_TYPES =
        "\\a:<P:T><Q:P>[yP,zP].@/R:T." + "?0a".repeat(10) + "aT";
    private static final String TYPE_OF_MANY = "(<P:T><Q:P>[yP,zP]><P:T><Q:P>[yP,zP])";
    // The type would have a size of 17.
    private static final String ONE_TYPE_TOO_MANY =
        "\\a:<P:T><Q:P>[xT,yP,zP].@/R:T." + "?0a".repeat(9) + "aT";
    // What has been begun, or made, first is still needed when all the others are there.
    private static final String MANY_TERMS_BEGUN = "(\\a:T.(\\b:T.{x=a,y="
        + ".x".repeat(4) + "{x=".repeat(4) + "{}" + "}".repeat(4) + ",z=b}{})\\c:T.c)";
    private static final String MANY_VALUES =
        "{x={z={}},y={},z=(\\a:(T>T).(a(a(a(a(a(aa))))))\\d:T.{x={}})}";
    private static final String VALUE_OF_MANY = "{x={z={}},y={},z={x={}}}";

    private final Map<Object, Boolean> seen = new IdentityHashMap<>();
    private long elements;

    public static void main(String[] args) throws IllegalAccessException {
        newObject();
        grownObject();
        manyTypes(new BoundedSchemes());
        oneTypeTooMany(new BoundedSchemes());
        manyTermsBegun(new BoundedSchemes());
        manyValues(new BoundedSchemes());
        checks.end();
    }

    private static RoomTest roomOf(BoundedSchemes schemes) throws IllegalAccessException {
        RoomTest room = new RoomTest();
        room.count(schemes);
        return room;
    }

    private void count(Object one) throws IllegalAccessException {
        if (one == null || seen.put(one, true) != null) {
            return;
        }
        if (one.getClass().isArray()) {
            countRow(one);
            return;
        }
        for (Field field : one.getClass().getDeclaredFields()) {
            if (!Modifier.isStatic(field.getModifiers())) {
                field.setAccessible(true);
                elements++;
                if (!field.getType().isPrimitive()) {
                    count(field.get(one));
                }
            }
        }
    }

    private void countRow(Object row) throws IllegalAccessException {
        int length = Array.getLength(row);
        elements += length;
        for (int i = 0; i < length && !row.getClass().getComponentType().isPrimitive(); i++) {
            count(Array.get(row, i));
        }
    }

    // Each call of a run could be the one that makes a new object.
    private static void newObject() throws IllegalAccessException {
        RoomTest room = roomOf(new BoundedSchemes());
        checks.due("room for the objects of all calls", room.seen.size() * CALLS <= OBJECTS, true);
        checks.due("room for the elements of all calls", room.elements * CALLS <= ELEMENTS, true);
    }

    // Rows that grow double each time, so all that were ever made have at most twice the elements.
    private static void grownObject() throws IllegalAccessException {
        BoundedSchemes schemes = new BoundedSchemes();
        manyTypes(schemes);
        manyTermsBegun(schemes);
        manyValues(schemes);
        long elements = roomOf(schemes).elements;
        checks.due("an object has grown", elements > roomOf(new BoundedSchemes()).elements, true);
        checks.due("room for grown objects", 2 * elements * CALLS <= ELEMENTS, true);
        for (int i = 0; i < 3; i++) {
            manyTypes(schemes);
            manyTermsBegun(schemes);
            manyValues(schemes);
        }
        checks.due("the same calls need no more room", roomOf(schemes).elements, elements);
    }

    private static void manyTypes(BoundedSchemes schemes) {
        checks.due("readTerm of many types", Checks.readTerm(schemes, MANY_TYPES), BoundedSchemes.NONE);
        checks.due("typeOf many types", schemes.typeOf(0), BoundedSchemes.NONE);
        checks.due("size of many types", schemes.size(0), 15);
        checks.due("many types", Checks.written(schemes, 0), TYPE_OF_MANY);
    }

    private static void oneTypeTooMany(BoundedSchemes schemes) {
        checks.due("readTerm of one too many", Checks.readTerm(schemes, ONE_TYPE_TOO_MANY), BoundedSchemes.NONE);
        checks.due("typeOf one too many", schemes.typeOf(0), 0);
    }

    private static void manyTermsBegun(BoundedSchemes schemes) {
        checks.due("readTerm of many begun", Checks.readTerm(schemes, MANY_TERMS_BEGUN), BoundedSchemes.NONE);
        run(schemes, 6, "{x=f,y={},z={}}");
    }

    private static void manyValues(BoundedSchemes schemes) {
        checks.due("readTerm of many values", Checks.readTerm(schemes, MANY_VALUES), BoundedSchemes.NONE);
        run(schemes, 7, VALUE_OF_MANY);
    }

    private static void run(BoundedSchemes schemes, int steps, String value) {
        checks.due("start", schemes.start(), true);
        checks.due("one step before the last", schemes.step(steps - 1), steps - 1);
        checks.due("no value yet", schemes.value(), BoundedSchemes.NONE);
        checks.due("the last step", schemes.step(20), 1);
        checks.due("steps", schemes.steps(), steps);
        checks.due("value", schemes.value(), value.length());
        checks.due("the page", Checks.page(schemes), value);
    }
}
