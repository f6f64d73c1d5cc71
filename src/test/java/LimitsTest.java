import java.lang.management.ManagementFactory;
import java.lang.reflect.Method;
import java.lang.reflect.Modifier;

/** The dearest calls near their limits, what they allocate, and that no call throws. */
public final class LimitsTest {
    // 652 tones at least bring all rooms into room 9
    private static final String FAR = "rooms 14;tones 2;lead 0 6 10;lead 1 12 12;lead 2 7 7;lead 3 13 5;lead 4 4 2;"
        + "lead 5 11 1;lead 6 8 11;lead 7 1 11;lead 8 9 0;lead 9 5 2;lead 10 13 0;lead 11 0 3;lead 12 3 4;lead 13 7 1;"
        + "chance 0 1 1 1;chance 1 1 0 1;chance 4 1 7 1;chance 6 1 6 1;chance 7 1 0 1;chance 8 1 4 1;chance 9 1 1 1;"
        + "chance 10 0 4 1;chance 10 1 9 1;chance 11 1 9 1;chance 12 1 9 1;";
    private static final int ALL = 16383;

    private static int wrong;

    private static void due(String what, long got, long want) {
        if (got != want) {
            wrong++;
            System.out.println(what + " answered " + got + ", due is " + want);
        }
    }

    private static OneBell told(String text) {
        OneBell x = new OneBell();
        if (Texts.tell(x, text) < 0) {
            wrong++;
            System.out.println("a fault in " + text);
        }
        return x;
    }

    private static String ring(int rooms, String more) {
        StringBuilder text = new StringBuilder("rooms " + rooms + ";tones 2;");
        for (int r = 0; r < rooms; r++) {
            text.append("lead ").append(r).append(' ').append((r + 1) % rooms).append(' ')
                .append(r == rooms - 1 ? 0 : r).append(';');
        }
        return text + more;
    }

    /** Where all signs are alike, turns are as many as the tones that bring all into one room. */
    private static void turns() {
        OneBell x = told(ring(14, ""));
        for (int set = 1; set <= ALL; set += 197) {
            int tones = x.brings(set, -1);
            due("byTurns(" + set + ")", x.byTurns(set), tones > 40 ? -1 : tones);
        }
        due("byTurns of 40", x.byTurns(60), 40);
        due("byTurns of 41", x.byTurns(30), -1);
        due("brings of 41", x.brings(30, -1), 41);
    }

    /** The slow model counts the sets that come about, too. */
    private static void fullOrNot() {
        int full = 0;
        int longest = 0;
        for (int rooms = 9; rooms <= 11; rooms++) {
            String text = ring(rooms, "").replace("tones 2", "tones 3").replaceAll("lead (\\d+) (\\d+) (\\d+);",
                "lead $1 $2 $3 $1;").replace(";lead 0 1 0 0;", ";lead 0 1 0 1;");
            OneBell x = told(text);
            Model model = new Model();
            for (int from = 0; from < text.length(); from += 20) {
                int[] five = Texts.five(text, from);
                model.feed(five[0], five[1], five[2], five[3], five[4]);
            }
            model.house(text.length());
            for (int set = (1 << rooms) - 1; set > 0; set -= 151 * rooms) {
                int got = x.lost(set);
                due("lost(" + set + ") of " + text, got, model.lost(set));
                due("its FOUND", x.found(-1), model.found(-1));
                full += got == -4 ? 1 : 0;
                longest = Math.max(longest, got);
            }
        }
        due("some are FULL", full > 0 ? 1 : 0, 1);
        due("some are long", longest > 50 ? 1 : 0, 1);
    }

    /** One room holds all that a run makes: 512 of the dearest calls stay far below it. */
    private static void allocated() {
        com.sun.management.ThreadMXBean bean =
            (com.sun.management.ThreadMXBean) ManagementFactory.getThreadMXBean();
        dearCalls(20);
        long before = bean.getThreadAllocatedBytes(Thread.currentThread().getId());
        dearCalls(512);
        long bytes = bean.getThreadAllocatedBytes(Thread.currentThread().getId()) - before;
        System.out.println("a run of 512 dear calls allocates " + bytes + " bytes");
        due("bytes of a run within bounds", bytes < 2000000 ? 1 : 0, 1);
        before = bean.getThreadAllocatedBytes(Thread.currentThread().getId());
        for (int i = 0; i < 100; i++) {
            new OneBell().count(0);
        }
        bytes = (bean.getThreadAllocatedBytes(Thread.currentThread().getId()) - before) / 100;
        System.out.println("a new object allocates " + bytes + " bytes");
        due("bytes of a new object within bounds", bytes < 40000 ? 1 : 0, 1);
    }

    private static void dearCalls(int calls) {
        OneBell x = new OneBell();
        Texts.tell(x, FAR);
        x.image(0);
        x.image(1);
        for (int i = 0; i < calls; i++) {
            switch (i % 10) {
                case 0: x.brings(ALL, 512); break;
                case 1: x.lost(ALL); break;
                case 2: x.mended(i % 3); break;
                case 3: x.telling(ALL, true); break;
                case 4: x.byTurns(ALL); break;
                case 5: x.ways(12); break;
                case 6: x.best(4); break;
                case 7: x.paired(ALL); break;
                case 8: x.restore(i % 2); break;
                default: x.house(i % 30 == 9 ? 0 : -1); x.restore(0); break;
            }
        }
    }

    /** Every call with every odd number in each place, on objects of every kind. */
    private static void nothingThrows() {
        String eight = "waiter 0;waiter 1;waiter 0;waiter 1;waiter 1;waiter 1;waiter 0;waiter 0;";
        String[] texts = {"", "rooms 2;tones 1;", ring(14, eight), FAR};
        int[] odd = {Integer.MIN_VALUE, -2, -1, 0, 1, 2, 3, 13, 14, 40, 41, 16383, 16384, Integer.MAX_VALUE};
        for (String text : texts) {
            for (Method method : OneBell.class.getDeclaredMethods()) {
                if (Modifier.isPublic(method.getModifiers()) && !method.getName().equals("feed")) {
                    OneBell x = told(text);
                    x.numbers(0, 0, 0);
                    x.numbers(1, 3, 40);
                    x.numbers(2, 2, 4);
                    x.image(1);
                    askAll(x, method, odd);
                }
            }
        }
    }

    private static void askAll(OneBell x, Method method, int[] odd) {
        Class<?>[] types = method.getParameterTypes();
        int all = (int) Math.pow(odd.length, types.length);
        for (int which = 0; which < all; which++) {
            Object[] arguments = new Object[types.length];
            int rest = which;
            for (int i = 0; i < types.length; i++) {
                int value = odd[rest % odd.length];
                rest /= odd.length;
                arguments[i] = types[i] == boolean.class ? (Object) (value > 0)
                    : types[i] == long.class ? (Object) (long) value : (Object) value;
            }
            try {
                method.invoke(x, arguments);
            } catch (ReflectiveOperationException e) {
                wrong++;
                System.out.println(method.getName() + java.util.Arrays.toString(arguments) + " threw " + e.getCause());
            }
        }
    }

    public static void main(String[] arguments) {
        turns();
        fullOrNot();
        allocated();
        nothingThrows();
        System.out.println(wrong == 0 ? "all limits hold" : wrong + " answers are not as due");
        if (wrong != 0) {
            System.exit(1);
        }
    }
}
