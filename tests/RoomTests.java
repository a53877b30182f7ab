import java.lang.reflect.Array;
import java.lang.reflect.Field;
import java.lang.reflect.Modifier;
import java.util.Collections;
import java.util.IdentityHashMap;
import java.util.Set;

/**
 * All calls of a run share one room of so many objects and elements: the constructor
 * is the dearest call, and all calls of a run could be that one.
 */
public final class RoomTests {
    private static final int CALLS = 512;
    private static final int ROOM_OBJECTS = 600000;
    private static final int ROOM_ELEMENTS = 7300000;

    private static final Check check = new Check();

    private final Set<Object> seen = Collections.newSetFromMap(new IdentityHashMap<>());
    private long elements = 0;

    public static void main(String[] args) throws IllegalAccessException {
        NoHedgeTwice x = new NoHedgeTwice();
        RoomTests made = new RoomTests();
        made.count(x);
        check.about("a new object takes " + made.seen.size() + " objects, " + made.elements + " elements");
        check.due("so many fit as a run has calls", made.seen.size() * (long) CALLS <= ROOM_OBJECTS, true);
        check.due("all their elements fit", made.elements * CALLS <= ROOM_ELEMENTS, true);
        useAll(x);
        RoomTests used = new RoomTests();
        used.count(x);
        check.about("calls take no more");
        check.due("objects", used.seen.size(), made.seen.size());
        check.due("the same ones", used.seen.equals(made.seen), true);
        check.due("elements", used.elements, made.elements);
        check.close();
    }

    private static void useAll(NoHedgeTwice x) {
        String corners = "@00;@01;@02;@03;@04;@05;@06;@07;@08;@09";
        Check.land(x, corners);
        for (int h = 0; h < 14; h++) {
            char a = (char) ('a' + h % 10);
            char b = (char) ('a' + (h + 1) % 10);
            Check.land(x, a + "" + b + (h + 1) + ":" + h % 6 + (h + 1) % 6 + (h % 3 == 0 ? "g" : ""));
        }
        for (int h = 0; h < 14; h++) {
            x.walk(h);
            x.heard(h, 3);
        }
        Check.tour(x, 0, "aABCD");
        Check.tour(x, 1, "dCBAA");
        x.look(0);
        x.meets(3);
        x.apart();
        x.keep(0);
        x.keep(2);
        x.season(3);
        x.again(0);
        x.trail(0);
        x.round();
        x.closed();
        x.open();
        x.most(0, 9999);
        x.home(0, 9999);
        x.soon(0, 9);
        x.gates(0);
        x.bridges();
        x.reach(0);
        x.lands();
        x.sure();
        x.next();
        x.lies();
        x.quarrel();
        x.sheet(2, 14, 1, 1);
    }

    private void count(Object one) throws IllegalAccessException {
        if (one == null || !seen.add(one)) {
            return;
        }
        if (one.getClass().isArray()) {
            countArray(one);
            return;
        }
        for (Field field : one.getClass().getDeclaredFields()) {
            if (!Modifier.isStatic(field.getModifiers())) {
                elements++;
                if (!field.getType().isPrimitive()) {
                    field.setAccessible(true);
                    count(field.get(one));
                }
            }
        }
    }

    private void countArray(Object row) throws IllegalAccessException {
        elements += Array.getLength(row);
        if (row instanceof Object[] parts) {
            for (Object part : parts) {
                count(part);
            }
        }
    }
}
