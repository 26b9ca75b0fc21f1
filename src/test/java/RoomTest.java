import java.lang.management.ManagementFactory;
import java.lang.reflect.Array;
import java.lang.reflect.Field;
import java.lang.reflect.Modifier;
import java.util.IdentityHashMap;
import java.util.Map;

/** A run has one room for all that it makes: rows are made with the object, and calls make nothing. */
public final class RoomTest {
    private static long objects;
    private static long parts;

    public static void main(String[] args) throws Exception {
        Checks checks = new Checks("RoomTest");
        OldRoads x = new OldRoads();
        weigh(x, new IdentityHashMap<>());
        checks.yes("an object is small: " + objects + " objects", objects < 200);
        checks.yes("an object is small: " + parts + " fields and elements", parts < 40000);
        fill(x);
        long sum = work(x);
        com.sun.management.ThreadMXBean bean = (com.sun.management.ThreadMXBean) ManagementFactory.getThreadMXBean();
        long thread = Thread.currentThread().getId();
        long before = bean.getThreadAllocatedBytes(thread);
        long again = work(x);
        long made = bean.getThreadAllocatedBytes(thread) - before;
        checks.due("the same calls give the same answers", sum, again);
        checks.yes("calls make nothing: " + made + " bytes", made < 4096);
        checks.end();
    }

    /** Counts what an object is made of. */
    private static void weigh(Object object, Map<Object, Object> seen) throws Exception {
        if (object == null || seen.put(object, object) != null) {
            return;
        }
        objects++;
        if (object.getClass().isArray()) {
            parts += Array.getLength(object);
            for (int i = 0; i < Array.getLength(object) && !object.getClass().getComponentType().isPrimitive(); i++) {
                weigh(Array.get(object, i), seen);
            }
            return;
        }
        for (Field f : object.getClass().getDeclaredFields()) {
            if (!Modifier.isStatic(f.getModifiers())) {
                parts++;
                f.setAccessible(true);
                if (!f.getType().isPrimitive()) {
                    weigh(f.get(object), seen);
                }
            }
        }
    }

    private static void feed(OldRoads x, String text) {
        for (int i = 0; i < text.length(); i++) {
            x.feed(text.charAt(i), 0, 0, 0, 0);
        }
    }

    private static void fill(OldRoads x) {
        for (int i = 0; i < 60; i++) {
            x.draw(i * 7 % 12, i * 11 % 10, i * 7 % 12, i * 11 % 10, i % 4, i % 4 == 0 ? i : 1);
        }
        for (int i = 0; i < 8; i++) {
            x.town(i * 17);
        }
        for (int i = 0; i < 6; i++) {
            feed(x, "y:!(u>5&d<2)|w=1?[u+d*2]/3+1" + i + ";y:7+m*9+f+t*3+s*g");
            x.text(0);
        }
        for (int i = 0; i < 4; i++) {
            feed(x, "a5b6c7d8e9f10g11h12a13e" + i + "c");
            x.text(1);
        }
        for (int i = 0; i < 10; i++) {
            x.lineOfWay(i % 6, 0, false, i * 5, 119 - i * 7);
            x.known(i);
            x.field(i, 0, 11, 9);
            x.pit(i * 13);
            x.era();
        }
        for (int i = 0; i < 30; i++) {
            x.find(i * 4, i % 4, 1 + i % 9);
        }
        feed(x, "y:[[[[[[u+1]*2]-3]]]]<5&!(!(!(u=1)))?2;y:3");
    }

    private static long work(OldRoads x) {
        long sum = 0;
        for (int i = 0; i < 12; i++) {
            int g = i % 6;
            int a = i * 31 % 120;
            int b = i * 47 % 120;
            boolean wet = i % 2 == 0;
            sum += x.pain(g, i, wet, 60, 2) + x.pains(g, i, wet, a, b) + x.way(g, i, wet, a, b, 2);
            sum += x.nearly(g, i, wet, a, b, 20, -1) + x.sees(0, 119 - i) + x.sights(a, b, 1 + i % 11, -1);
            sum += x.lineOfWay(g, i, wet, a, b) + x.lineOfSight(a, b, 3) + x.about(i % 10, i % 3);
            sum += x.near(i % 10, 2, 15) + x.against(i % 10, 2, 15, 0) + x.miss(g, i, wet, g) + x.best(i, wet, 1);
            sum += x.tried(i, wet) + x.stage(0, i % 10, 2) + x.off(i % 4, i % 10, g, i, wet) + x.slip(0, i % 10, g, i, wet, 2);
            sum += x.holds(i % 4, g, 5) + x.evidence(g, 0, 5) + x.odds(1, 7, -1) + x.dig(0, 7, 6) + x.meets(i % 10, i % 8);
            sum += x.older(i % 10) + x.hedge(i % 10, 2, 0) + x.net(g, i, wet, i % 3) + x.feet(g, i, wet, i * 99L, 40, 3);
            sum += x.worn(2) + x.alike(i % 10, 1) + x.trips(0) + x.changed(i % 4) + x.then(i % 4, g, i, wet, a, b, -1);
            sum += x.lasting(g, i, wet, a, b) + x.count(8) + x.fault(0) + x.fault(1) + x.text(1) + x.trodden(a) + x.drawn(a, 0);
        }
        return sum;
    }
}
