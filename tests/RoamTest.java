import java.lang.reflect.Method;
import java.lang.reflect.Modifier;
import java.util.ArrayList;
import java.util.Comparator;
import java.util.List;

/**
 * Any call with any numbers: nothing is thrown; what is asked, and what is refused, changes nothing;
 * the same calls give the same answers; and 512 of the dearest call use little of the room.
 */
public final class RoamTest {
    private static final int[] NUMBERS = {Integer.MIN_VALUE, Integer.MIN_VALUE + 1, -100000, -1000, -101, -100, -99,
        -51, -50, -2, -1, 0, 1, 2, 3, 4, 5, 6, 7, 8, 9, 10, 11, 12, 13, 15, 16, 17, 20, 31, 32, 33, 50, 51, 60, 61,
        99, 100, 120, 121, 150, 400, 999, 1000, 1234, 1600, 2024, 2400, 5555, 9999, 65535, 65536, 99999, 100000,
        1222222222, Integer.MAX_VALUE - 1, Integer.MAX_VALUE};
    private static final List<String> TELLING = List.of("state", "officer", "batman", "set", "act", "days", "feed",
        "end", "text", "guess", "letter", "bit", "queen", "corner", "undo", "image");
    private static int seed = 3;

    public static void main(String[] args) throws Exception {
        List<Method> calls = new ArrayList<>();
        for (Method m : SlipperTruce.class.getDeclaredMethods()) {
            if (Modifier.isPublic(m.getModifiers())) {
                calls.add(m);
            }
        }
        calls.sort(Comparator.comparing(Method::getName));
        for (int run = 0; run < 300; run++) {
            roam(calls, run);
        }
        room(calls);
        Due.close("RoamTest");
    }

    private static int some(int m) {
        seed = seed * 1103515245 + 12345;
        return (seed >>> 16) % m;
    }

    private static int number(int run) {
        return run % 3 == 0 ? NUMBERS[some(NUMBERS.length)] : run % 3 == 1 ? some(13) - 1 : some(4);
    }

    private static Object[] arguments(Method m, int run) {
        Object[] a = new Object[m.getParameterCount()];
        for (int i = 0; i < a.length; i++) {
            a[i] = m.getParameterTypes()[i] == boolean.class ? (Object) (some(3) > 0) : (Object) number(run);
        }
        return a;
    }

    private static long call(SlipperTruce x, Method m, Object[] a) {
        try {
            Object got = m.invoke(x, a);
            return got instanceof Boolean b ? (b ? 1 : 0) : ((Integer) got).longValue();
        } catch (ReflectiveOperationException e) {
            Due.is(m.getName() + java.util.Arrays.toString(a) + " threw " + e.getCause(), 1, 0);
            return 0;
        }
    }

    private static boolean refused(Method m, long got) {
        return m.getReturnType() == boolean.class ? got == 0 : got == -1;
    }

    private static void roam(List<Method> calls, int run) {
        SlipperTruce x = new SlipperTruce();
        SlipperTruce again = new SlipperTruce();
        String[] texts = {"reads 400;presses sleep when not hole=1;", "on 3 march 0 99;on 4 truce;on 4 hole 1;",
            "officer 0 batman 0;officer 1 batman 0;", "officer 0 needs 1;officer 1 needs 0;"};
        if (run % 2 == 0) {
            for (SlipperTruce y : new SlipperTruce[] {x, again}) {
                y.officer(0, run % 10);
                y.officer(0, 4);
                y.batman(1, 3);
                for (int k = 0; k < 4; k++) {
                    Due.tell(y, k, texts[k]);
                }
            }
        }
        for (int i = 0; i < 500; i++) {
            Method m = calls.get(some(calls.size()));
            if (!TELLING.contains(m.getName()) && some(3) > 0) {
                m = calls.get(some(calls.size()));
            }
            Object[] a = arguments(m, run);
            boolean watched = i % 25 == 0;
            String was = watched ? Stand.war(x) + Stand.thoughts(x) + x.look(12) : "";
            long got = call(x, m, a);
            String name = m.getName() + java.util.Arrays.toString(a);
            Due.is("the same again: " + name, call(again, m, a), got);
            boolean telling = TELLING.contains(m.getName());
            boolean hidden = m.getName().equals("state") || m.getName().equals("text");
            if (watched && (!telling || refused(m, got) && !hidden)) {
                String is = Stand.war(x) + Stand.thoughts(x) + x.look(12);
                Due.is("behind " + name + " all stands as it did", is.equals(was), true);
            }
        }
        Due.is("the same war in the end", Stand.war(x).equals(Stand.war(again)), true);
        Due.is("the same thoughts in the end", Stand.thoughts(x).equals(Stand.thoughts(again)), true);
    }

    /** Bytes that the machine has handed out to this thread: 8 an element at the most, and some a new object. */
    private static void room(List<Method> calls) {
        com.sun.management.ThreadMXBean bean =
            (com.sun.management.ThreadMXBean) java.lang.management.ManagementFactory.getThreadMXBean();
        long id = Thread.currentThread().getId();
        SlipperTruce x = full();
        int sum = 0;
        for (int turn = 0; turn < 2; turn++) {
            for (int kind = 0; kind < 12; kind++) {
                long before = bean.getThreadAllocatedBytes(id);
                for (int i = 0; i < 512; i++) {
                    sum += dear(x, kind);
                }
                long used = bean.getThreadAllocatedBytes(id) - before;
                Due.is("512 calls of kind " + kind + " use little room: " + used, turn == 0 || used < 512 * 1024, true);
            }
        }
        long before = bean.getThreadAllocatedBytes(id);
        SlipperTruce y = new SlipperTruce();
        long used = bean.getThreadAllocatedBytes(id) - before;
        Due.is("a new object uses little room: " + used, used < 100_000 && y.look(0) == 0, true);
        Due.is("the calls were made", sum != 1, true);
    }

    private static SlipperTruce full() {
        SlipperTruce x = new SlipperTruce();
        for (int i = 0; i < 12; i++) {
            x.officer(i % 2, 3);
            x.batman(1 - i % 2, 3);
            x.letter(0, i);
            x.letter(1, i);
            x.bit(i / 3 % 2);
            x.queen(i % 7, i % 3);
            x.corner(i * 3, -i);
            x.guess(1111 * (i % 5), 0, 1);
        }
        return x;
    }

    private static int dear(SlipperTruce x, int kind) {
        switch (kind) {
            case 0:
                x.feed(0x70726573, 0x73657320, 0x31207768, 0x656e2031, 0x3d312020);
                return x.text(0);
            case 1:
                return x.days(1);
            case 2:
                return x.goes(60, 3);
            case 3:
                return x.peace();
            case 4:
                return x.words(0);
            case 5:
                return x.anew(0) + x.anew(2);
            case 6:
                return x.queens(7);
            case 7:
                return x.within(1, 1) + x.area();
            case 8:
                return x.brackets(8, 77, 1) + x.billets(10, -1) + x.game(119, 60);
            case 9:
                return x.parts(99991, 3) + x.happy(999, 2) + x.boots(10, 3, 700) + x.moves(101202);
            case 10:
                return x.image(true) && x.image(false) ? 2 : 3;
            default:
                return x.message(13, 3) + x.message(0, 3) + x.of(0, 11) + x.who(0, 3) + x.book(0, 0);
        }
    }
}
