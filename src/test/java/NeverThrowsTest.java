import com.sun.management.ThreadMXBean;
import java.lang.management.ManagementFactory;
import java.lang.reflect.InvocationTargetException;
import java.lang.reflect.Method;
import java.lang.reflect.Modifier;
import java.util.ArrayList;
import java.util.Comparator;
import java.util.List;
import java.util.Random;

/** Any call with any arguments in any state answers, and makes no objects; a new object is small. */
public final class NeverThrowsTest {
    private static final int[] EDGES = {Integer.MIN_VALUE, Integer.MIN_VALUE + 1, -1000000, -241, -2, -1, 0, 1, 2, 3, 4, 5, 6, 9,
        10, 11, 12, 13, 15, 16, 20, 21, 24, 25, 39, 40, 59, 60, 61, 99, 100, 101, 239, 240, 241, 255, 400, 401, 500,
        501, 502, 999, 1000, 2000, 2001, 4000, 9999, 10000, 99999, 999999, 1000000, Integer.MAX_VALUE - 1, Integer.MAX_VALUE};
    private static int wrong;

    public static void main(String[] args) throws Exception {
        List<Method> face = new ArrayList<>();
        for (Method m : CoinBoats.class.getDeclaredMethods()) {
            if (Modifier.isPublic(m.getModifiers())) {
                face.add(m);
            }
        }
        face.sort(Comparator.comparing(Method::getName));
        for (int seed = 1; seed <= 150 && wrong == 0; seed++) {
            any(face, new Random(seed));
        }
        everyEdge(face);
        room();
        System.out.println(wrong == 0 ? "nothing was thrown" : "wrong");
        if (wrong != 0) {
            System.exit(1);
        }
    }

    /** Far more calls than the 512 that are promised. */
    private static void any(List<Method> face, Random chance) throws Exception {
        CoinBoats x = new CoinBoats();
        for (int i = 0; i < 3000 && wrong == 0; i++) {
            if (i % 600 == 0) {
                Check.tell(x, new Texts(chance).next());
            }
            Method m = face.get(chance.nextInt(face.size()));
            if (!m.getName().equals("read") || chance.nextInt(40) == 0) {
                call(x, m, chance, -1, 0);
            }
        }
    }

    private static void call(CoinBoats x, Method m, Random chance, int place, int value) throws Exception {
        Class<?>[] types = m.getParameterTypes();
        Object[] args = new Object[types.length];
        StringBuilder said = new StringBuilder(m.getName());
        for (int i = 0; i < args.length; i++) {
            int any = chance.nextInt(3) == 0 ? EDGES[chance.nextInt(EDGES.length)] : chance.nextInt(5);
            any = chance.nextInt(40) == 0 ? chance.nextInt() : any;
            args[i] = types[i] == boolean.class ? (Object) chance.nextBoolean() : (Object) (i == place ? value : any);
            said.append(' ').append(args[i]);
        }
        try {
            m.invoke(x, args);
        } catch (InvocationTargetException thrown) {
            wrong++;
            System.out.println(said + " threw " + thrown.getCause());
        }
    }

    /** Each argument of each call once at each edge, in a state in which most there is. */
    private static void everyEdge(List<Method> face) throws Exception {
        Random chance = new Random(5);
        CoinBoats x = full();
        for (Method m : face) {
            for (int place = 0; place < m.getParameterCount() && !m.getName().equals("read"); place++) {
                for (int value : EDGES) {
                    call(x, m, chance, place, value);
                }
            }
        }
    }

    private static CoinBoats full() {
        CoinBoats x = Check.told("kind a 1 1 1;kind b 2 2 4;kind c 5 3 7;kind d 12 4 9;kind e 30 5 1;kind f 7 6 3;"
            + "island ia 60 5;island ib 25 9;island ic 60 2;island id 10 9;want ia a=10+month;want ib a=8-month/2;"
            + "flow house ia b=noise;flow ia ib a=has/3;lost ia a=has/6;wear a=(((((has/(2+worn))))));"
            + "boat ia 0 999 9;boat ib 0 999 3 fails 5;");
        for (int kind = 0; kind < 6; kind++) {
            for (int place = 0; place < 5; place++) {
                x.lay(place, kind, place % 4, 37 * kind + 100 * place + 5);
            }
        }
        for (int i = 0; i < 40; i++) {
            x.send(i / 4, 1 + i % 2, i % 6, 1 + i % 7, i % 3 == 0);
        }
        for (int i = 0; i < 60; i++) {
            x.book(1 + i % 4, i % 6, 9999 - i, i % 3 != 0);
        }
        return x;
    }

    /** What a call makes, in bytes, and what a new object is. */
    private static void room() {
        ThreadMXBean bean = (ThreadMXBean) ManagementFactory.getThreadMXBean();
        long me = Thread.currentThread().getId();
        long made = 0;
        long took = 0;
        for (int round = 0; round < 3; round++) {
            CoinBoats x = full();
            long ahead = bean.getThreadAllocatedBytes(me);
            calls(x);
            long behind = bean.getThreadAllocatedBytes(me);
            CoinBoats y = new CoinBoats();
            took = bean.getThreadAllocatedBytes(me) - behind;
            made = behind - ahead;
            wrong += y.count(0) == 0 ? 0 : 1;
        }
        System.out.println("calls made " + made + " bytes, a new object took " + took);
        if (made > 2000 || took > 110000) {
            wrong++;
            System.out.println("that is too much");
        }
    }

    private static void calls(CoinBoats x) {
        for (int i = 0; i < 20; i++) {
            x.feed(i, i, i, i, i);
            x.back(i);
            x.read();
            x.pay(1, 100 + i, 12);
            x.change(2, 100 + i, 3, 22);
            x.whichSum(100 + i, i);
            x.price(1, 0, i % 12, 12, i, 3);
            x.holds(0, i % 12, 9, 9, 9, 9);
            x.judge();
            x.why();
            x.hold(i % 2);
            x.months(i, 3);
            x.restore(i % 3);
            x.jars(1, 60, i + 1, 1);
            x.ends(1, 60, i + 1, 999);
            x.whose(60);
            x.whoseWays(1, 60, true);
            x.richest(60);
            x.trickled(9999, 1, 1, i);
        }
    }
}
