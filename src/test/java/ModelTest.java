import java.lang.reflect.Method;
import java.util.ArrayList;
import java.util.HashMap;
import java.util.List;
import java.util.Map;
import java.util.Random;

/** Runs of calls by chance: the program must answer each as the slow model does. */
public final class ModelTest {
    private static final Map<String, Method> PROGRAM = methods(OneBell.class);
    private static final Map<String, Method> MODEL = methods(Model.class);

    private final Random random;
    private final OneBell program = new OneBell();
    private final Model model = new Model();
    private final List<String> said = new ArrayList<>();
    // an object answers 512 calls, so no more than these are asked of one
    private int calls;
    private int rooms;
    private int tones;
    private int waiters;

    private ModelTest(long seed) {
        random = new Random(seed);
    }

    private static Map<String, Method> methods(Class<?> of) {
        Map<String, Method> all = new HashMap<>();
        for (Method method : of.getDeclaredMethods()) {
            if (java.lang.reflect.Modifier.isPublic(method.getModifiers())) {
                all.put(method.getName(), method);
            }
        }
        return all;
    }

    private long call(String name, Object... arguments) {
        calls++;
        if (calls > 512) {
            throw new AssertionError("more calls than an object answers");
        }
        try {
            long got = ((Number) PROGRAM.get(name).invoke(program, arguments)).longValue();
            long due = ((Number) MODEL.get(name).invoke(model, arguments)).longValue();
            said.add(name + java.util.Arrays.toString(arguments) + " = " + got);
            if (got != due) {
                throw new AssertionError(name + java.util.Arrays.toString(arguments) + " answered " + got
                    + ", due is " + due);
            }
            return got;
        } catch (ReflectiveOperationException e) {
            throw new AssertionError(name + java.util.Arrays.toString(arguments), e);
        }
    }

    private void tell(String text) {
        for (int from = 0; from < text.length(); from += 20) {
            int[] five = Texts.five(text, from);
            call("feed", five[0], five[1], five[2], five[3], five[4]);
        }
        said.add(text);
        call("house", text.length());
        look();
    }

    private void look() {
        rooms = (int) call("count", 0);
        tones = (int) call("count", 1);
        waiters = (int) call("count", 3);
    }

    /** A number below a bound, now and then one that isn't. */
    private int upTo(int bound) {
        int odd = random.nextInt(40);
        if (odd == 0) {
            return -1;
        }
        if (odd == 1) {
            return bound;
        }
        return odd == 2 ? random.nextInt() : random.nextInt(Math.max(1, bound));
    }

    private int set() {
        int odd = random.nextInt(40);
        if (odd == 0) {
            return random.nextInt();
        }
        if (odd < 3) {
            return 1 << rooms >> odd - 1;
        }
        return odd < 20 ? (1 << rooms) - 1 : random.nextInt(1 << rooms);
    }

    private int goal() {
        return random.nextBoolean() ? -1 : set();
    }

    private int someWaiters() {
        int bits = random.nextInt(10) == 0 ? upTo(1 << waiters) : 0;
        for (int i = 0; i < 20 && bits == 0; i++) {
            int some = random.nextInt(1 << waiters);
            bits = Integer.bitCount(some) == 2 || Integer.bitCount(some) == 3 ? some : 0;
        }
        return bits;
    }

    private int otherWaiter() {
        return waiters > 1 ? upTo(waiters - 1) + 1 : upTo(waiters);
    }

    private int row() {
        return upTo(random.nextInt(8) == 0 ? 4 : 2);
    }

    private void writeRow(int row) {
        int n = random.nextInt(4) > 0 ? random.nextInt(9) : upTo(41);
        call("numbers", row, upTo(4), n);
        for (int i = 0; i < n && i < 40; i++) {
            call("write", row, i, random.nextInt(100) == 0 ? random.nextLong() >> random.nextInt(64)
                : (long) random.nextInt(Math.max(1, tones)));
        }
    }

    private void ask(int which) {
        switch (which) {
            case 0: call("fault", upTo(2)); break;
            case 1: call("way", upTo(rooms), upTo(tones), upTo(3)); break;
            case 2: call("room", upTo(rooms), upTo(3)); break;
            case 3: call("waiter", upTo(waiters)); break;
            case 4: call("reach", upTo(rooms)); break;
            case 5: call("judge", row()); break;
            case 6: call("where", row(), upTo(waiters), upTo(9)); break;
            case 7: call("meeting", row(), upTo(2)); break;
            case 8: call("amiss", row(), upTo(2)); break;
            case 9: call("sees", row(), upTo(waiters), upTo(9)); break;
            case 10: call("after", row(), set()); break;
            case 11: call("brings", set(), goal()); break;
            case 12: call("clean", set(), goal()); break;
            case 13: call("rank"); break;
            case 14: call("meet", upTo(rooms), upTo(rooms)); break;
            case 15: call("never"); break;
            case 16: call("paired", set()); break;
            case 17: call("lost", set()); break;
            case 18: call("spare"); break;
            case 19: call("mended", upTo(3)); break;
            case 20: call("kernel", row(), upTo(rooms)); break;
            case 21: call("ways", upTo(13)); break;
            case 22: call("doubt", row(), set(), random.nextBoolean()); break;
            case 23: call("telling", set(), random.nextBoolean()); break;
            case 24: call("byTurns", set()); break;
            case 25: call("alike", upTo(rooms), upTo(rooms)); break;
            case 26: call("classes"); break;
            case 27: call("proof", upTo(rooms), upTo(rooms)); break;
            case 28: call("leads", someWaiters(), upTo(rooms)); break;
            case 29: call("deaf", upTo(waiters), otherWaiter(), upTo(1 << tones)); break;
            case 30: call("apart", upTo(waiters), otherWaiter(), upTo(41)); break;
            case 31: call("aparts", upTo(waiters), otherWaiter(), upTo(41)); break;
            case 32: call("round", row(), upTo(rooms), upTo(2)); break;
            case 33: call("parts", row(), upTo(waiters), upTo(rooms)); break;
            case 34: call("there", row()); break;
            case 35: call("best", upTo(5)); break;
            case 36: call("night", row(), random.nextInt(), upTo(waiters)); break;
            case 37: call("copy", row()); break;
            case 38: call("image", upTo(2)); break;
            case 39: call("restore", upTo(2)); look(); break;
            case 40: call("count", upTo(7)); break;
            case 41: tell(Texts.bent(random)); break;
            case 42: call("house", upTo(1)); look(); break;
            default: writeRow(row()); break;
        }
    }

    private void lookAtFound() {
        int many = (int) call("found", -1);
        for (int i = 0; i <= many && i < 12; i++) {
            call("found", i);
        }
        call("found", upTo(500));
    }

    private void run(int mostRooms, int mostTones) {
        tell(random.nextInt(12) == 0 ? "" : Texts.house(random, mostRooms, mostTones));
        writeRow(0);
        writeRow(1);
        for (int i = 0; i < 40 && calls < 400; i++) {
            int which = random.nextInt(48);
            boolean dear = rooms * tones > 30 && (which == 19 || which == 17 || which == 23 || which == 24);
            if (!dear || random.nextInt(8) == 0) {
                ask(which);
                lookAtFound();
            }
            if (rooms == 0 && random.nextInt(6) == 0) {
                tell(Texts.house(random, mostRooms, mostTones));
            }
        }
    }

    private void faults() {
        while (calls < 470) {
            tell(Texts.bent(random));
            call("fault", 0);
            call("fault", 1);
            call("count", 2);
            call("count", 6);
        }
    }

    private boolean holds(int seed, boolean faulty) {
        try {
            if (faulty) {
                faults();
            } else {
                run(seed % 4 == 0 ? 14 : 6, seed % 4 == 0 ? 6 : 3);
            }
            return true;
        } catch (AssertionError error) {
            System.out.println("run " + seed + ": " + error + " " + error.getCause());
            for (String one : said) {
                if (!one.startsWith("feed")) {
                    System.out.println("    " + one);
                }
            }
            return false;
        }
    }

    public static void main(String[] arguments) {
        int runs = arguments.length > 0 ? Integer.parseInt(arguments[0]) : 500;
        int first = arguments.length > 1 ? Integer.parseInt(arguments[1]) : 0;
        int wrong = 0;
        for (int seed = first; seed < first + runs && wrong < 5; seed++) {
            wrong += new ModelTest(seed).holds(seed, false) ? 0 : 1;
            wrong += new ModelTest(seed).holds(seed, true) ? 0 : 1;
        }
        System.out.println(wrong == 0 ? "the program answers as the model does" : wrong + " runs are not as due");
        if (wrong != 0) {
            System.exit(1);
        }
    }
}
