import java.lang.reflect.Array;
import java.lang.reflect.Field;
import java.lang.reflect.Modifier;
import java.util.Collections;
import java.util.IdentityHashMap;
import java.util.Set;

/** What an object keeps: all calls of one run share a room of 600000 objects and 7.3 million fields. */
public final class RoomTest {
    // As README.md tells them; the object itself has two fields, and eight places for kept states.
    private static final int STATE_OBJECTS = 11;
    private static final int STATE_FIELDS = 615;
    private static final int OWN_OBJECTS = 2;
    private static final int OWN_FIELDS = 10;

    private final Set<Object> objects = Collections.newSetFromMap(new IdentityHashMap<>());
    private int fields = 0;

    public static void main(String[] args) throws IllegalAccessException {
        Checks checks = new Checks();
        StakeLedger x = new StakeLedger();
        room(checks, "a new object", x, 1);
        for (int k = 0; k < 8; k++) {
            x.back(k);
        }
        room(checks, "after back", x, 1);
        for (int k = 0; k < 8; k++) {
            x.keep(k);
            room(checks, "after keep(" + k + ")", x, 2 + k);
        }
        Set<Object> before = of(x).objects;
        useAll(x);
        room(checks, "a full one", x, 9);
        checks.due("the same objects are used again", of(x).objects.equals(before) ? 1 : 0, 1);
        checks.end();
    }

    private static void useAll(StakeLedger x) {
        SetUp.fillBonds(x);
        SetUp.fillReturns(x);
        SetUp.proveAll(x);
        for (int i = 0; i < 50; i++) {
            x.next();
            x.keep(i % 8);
            x.proposer(i, i);
            x.share(i);
            x.back(i % 8);
        }
    }

    private static RoomTest of(StakeLedger x) throws IllegalAccessException {
        RoomTest room = new RoomTest();
        room.count(x);
        return room;
    }

    private static void room(Checks checks, String when, StakeLedger x, int states) throws IllegalAccessException {
        RoomTest room = of(x);
        checks.due(when + ": objects and arrays", room.objects.size(), OWN_OBJECTS + states * STATE_OBJECTS);
        checks.due(when + ": fields and elements", room.fields, OWN_FIELDS + states * STATE_FIELDS);
    }

    private void count(Object one) throws IllegalAccessException {
        if (one == null || !objects.add(one)) {
            return;
        }
        if (one.getClass().isArray()) {
            countElements(one);
        } else {
            countFields(one);
        }
    }

    private void countElements(Object array) throws IllegalAccessException {
        fields += Array.getLength(array);
        if (!array.getClass().getComponentType().isPrimitive()) {
            for (Object one : (Object[]) array) {
                count(one);
            }
        }
    }

    private void countFields(Object one) throws IllegalAccessException {
        for (Field field : one.getClass().getDeclaredFields()) {
            if (!Modifier.isStatic(field.getModifiers())) {
                fields++;
                field.setAccessible(true);
                if (!field.getType().isPrimitive()) {
                    count(field.get(one));
                }
            }
        }
    }
}
