import java.lang.management.ManagementFactory;
import java.lang.reflect.Array;
import java.lang.reflect.Field;
import java.lang.reflect.InvocationTargetException;
import java.lang.reflect.Method;
import java.lang.reflect.Modifier;
import java.util.ArrayDeque;
import java.util.ArrayList;
import java.util.Collections;
import java.util.IdentityHashMap;
import java.util.List;
import java.util.NoSuchElementException;
import java.util.Random;
import java.util.Set;

/** Any numbers in any state: nothing but what the document names is ever thrown, and little room is taken. */
public final class WildTest {
    private static final int[] EDGES = {0, 1, -1, 2, 3, 5, 6, 7, 8, 9, 10, 11, 12, 20, 21, 23, 24, 25, 31, 32, 33, 60, 61, 63, 64,
        80, 81, 99, 100, 255, 256, Integer.MAX_VALUE, Integer.MIN_VALUE, Integer.MAX_VALUE - 3, 1 << 30};
    private static final List<String> THROWING = List.of("space", "object", "page", "row");
    private static final long MOST_OBJECTS = 400;
    private static final long MOST_ELEMENTS = 10000;

    private WildTest() {
    }

    public static void main(String[] args) throws Exception {
        wild();
        room();
        allocation();
        Check.finish();
    }

    private static List<Method> calls() {
        List<Method> all = new ArrayList<>();
        for (Method method : ShadowSpaces.class.getDeclaredMethods()) {
            if (Modifier.isPublic(method.getModifiers())) {
                all.add(method);
            }
        }
        all.sort((a, b) -> a.getName().compareTo(b.getName()));
        return all;
    }

    private static void wild() throws IllegalAccessException {
        List<Method> calls = calls();
        Random random = new Random(7);
        int bad = 0;
        for (int run = 0; run < 2000; run++) {
            ShadowSpaces x = Check.tell(new ShadowSpaces(), "1" + run % 10 + "1122");
            x.spaces();
            for (int call = 0; call < 512; call++) {
                Method method = calls.get(random.nextInt(calls.size()));
                Object[] args = new Object[method.getParameterCount()];
                for (int i = 0; i < args.length; i++) {
                    args[i] = number(random);
                }
                bad += isGood(x, method, args) ? 0 : 1;
                if (random.nextInt(10) == 0) {
                    Check.tell(x, TEXTS[random.nextInt(TEXTS.length)]);
                }
            }
        }
        Check.due("calls that throw what the document does not name", bad, 0);
    }

    private static final String[] TEXTS = {"1055..22", "20", "3011", "00", "n*n*n*n-f/(o-o)", "f0w0011w1022f1w2033", "e0f1w1044t1",
        "((((-t))))<---p", "w0-n>(f*f*f*f)", "999*999*999*999/-1"};

    private static int number(Random random) {
        switch (random.nextInt(6)) {
            case 0:
                return EDGES[random.nextInt(EDGES.length)];
            case 1:
                return random.nextInt(30) == 0 ? random.nextInt() : random.nextInt(30);
            default:
                return random.nextInt(7);
        }
    }

    private static boolean isGood(ShadowSpaces x, Method method, Object[] args) throws IllegalAccessException {
        try {
            method.invoke(x, args);
            return true;
        } catch (InvocationTargetException e) {
            boolean named = THROWING.contains(method.getName()) && e.getCause().getClass() == NoSuchElementException.class;
            if (!named) {
                System.out.println(method + " " + List.of(args) + " throws " + e.getCause());
            }
            return named;
        }
    }

    /** Objects and elements that one object of the class is made of. */
    private static void room() throws IllegalAccessException {
        Set<Object> seen = Collections.newSetFromMap(new IdentityHashMap<>());
        ArrayDeque<Object> left = new ArrayDeque<>();
        left.add(new ShadowSpaces());
        long elements = 0;
        while (!left.isEmpty()) {
            Object one = left.remove();
            if (!seen.add(one)) {
                continue;
            }
            if (one.getClass().isArray()) {
                elements += Array.getLength(one);
                for (int i = 0; i < Array.getLength(one) && !one.getClass().getComponentType().isPrimitive(); i++) {
                    left.add(Array.get(one, i));
                }
                continue;
            }
            for (Field field : one.getClass().getDeclaredFields()) {
                if (!Modifier.isStatic(field.getModifiers())) {
                    elements++;
                    field.setAccessible(true);
                    if (!field.getType().isPrimitive()) {
                        left.add(field.get(one));
                    }
                }
            }
        }
        System.out.println("an object: " + seen.size() + " objects, " + elements + " fields and elements");
        Check.due("objects", seen.size() <= MOST_OBJECTS, true);
        Check.due("fields and elements", elements <= MOST_ELEMENTS, true);
    }

    /** No call but those that throw and years() makes an object at all. */
    private static void allocation() {
        com.sun.management.ThreadMXBean bean = (com.sun.management.ThreadMXBean) ManagementFactory.getThreadMXBean();
        ShadowSpaces x = Check.with("001122", "1055");
        allCalls(x);
        long id = Thread.currentThread().getId();
        long before = bean.getThreadAllocatedBytes(id);
        for (int i = 0; i < 100; i++) {
            allCalls(x);
        }
        long bytes = (bean.getThreadAllocatedBytes(id) - before) / 100;
        System.out.println("all calls once: " + bytes + " bytes");
        Check.due("bytes of all calls", bytes <= 500, true);
    }

    private static void allCalls(ShadowSpaces x) {
        x.end(0);
        x.sign('n' << 24 | '>' << 16 | '2' << 8);
        x.end(3);
        x.law();
        x.sign('n' << 24 | '>' << 16 | '1' << 8);
        x.end(3);
        x.rule();
        x.sign('f' << 24 | '0' << 16 | 'r' << 8 | '0');
        x.sign('1' << 24);
        x.end(5);
        x.day();
        x.spaces();
        x.forks(0);
        x.writes(0, 1, 5);
        x.reads(1, 5);
        x.arrives(0, 0, 0);
        x.tidies(0);
        x.would(0);
        x.frees(0);
        x.storm(0, 5);
        x.sweep(0, 5);
        x.chain(0);
        x.peeks(0, 0);
        x.holders(0);
        x.shared(0, 1);
        x.differ(0, 1);
        x.common(0, 1);
        x.hidden();
        x.frames();
        x.deepest();
        x.odds(0, 3, 3);
        x.heard(1, 1);
        x.fits();
        x.asks();
        x.saw(1, 1, 1);
        x.laws();
        x.looks();
        x.pages(60);
        x.rests(20);
        x.years(1, 40);
        x.keep(0);
        x.again(0);
        x.sheet(0, 24, 1, 1);
        for (int space = 2; space < 6; space++) {
            x.ends(space);
        }
        x.undo();
    }
}
