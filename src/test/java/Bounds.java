import java.io.IOException;
import java.nio.charset.StandardCharsets;
import java.nio.file.Files;
import java.nio.file.Path;
import java.util.HashMap;
import java.util.HashSet;
import java.util.Map;
import java.util.Set;
import java.util.function.Supplier;
import java.util.function.ToLongFunction;
import java.util.regex.Matcher;
import java.util.regex.Pattern;

/** What the tests of boundary cases share: the sentence that is held, refused calls, a look at all of an object. */
final class Bounds {
    /** Three rooms, two tones, three waiters; of everything something. */
    static final String HOUSE = "rooms 3;tones 2;lead 0 1 1;lead 1 2 1;lead 2 0 2;chance 0 0 2 30;"
        + "waiter 0;waiter 2;waiter 1;sign 1 4;bar 2;two 1;pantry 1;";
    /** Tones that add 1 to 6 modulo 7, so that each tone of a row can be told from where it leads. */
    private static final String READER = "rooms 7;tones 6;lead 0 1 2 3 4 5 6;lead 1 2 3 4 5 6 0;lead 2 3 4 5 6 0 1;"
        + "lead 3 4 5 6 0 1 2;lead 4 5 6 0 1 2 3;lead 5 6 0 1 2 3 4;lead 6 0 1 2 3 4 5;waiter 0;";

    private static final String DOCUMENT = read("../shared/DOC.md").replaceAll("\\s+", " ");
    private static final Map<Integer, Set<Long>> CODES = new HashMap<>();
    private static int promise;
    private static String sentence = "";
    private static int wrong;

    private Bounds() {
    }

    private static String read(String path) {
        try {
            return new String(Files.readAllBytes(Path.of(path)), StandardCharsets.UTF_8);
        } catch (IOException e) {
            throw new IllegalStateException(path, e);
        }
    }

    /** What follows holds a sentence of a promise (0: of the terms), which must stand in the document. */
    static void says(int ofPromise, String quoted) {
        promise = ofPromise;
        sentence = quoted;
        CODES.computeIfAbsent(promise, p -> new HashSet<>());
        if (!part(promise).contains(quoted.replaceAll("\\s+", " "))) {
            fail("the document doesn't say this");
        }
    }

    /** The document's words on a promise, those ahead of all promises for 0. */
    private static String part(int which) {
        String begin = which == 0 ? "" : "## Promise " + which + ":";
        int from = DOCUMENT.indexOf(begin);
        int to = DOCUMENT.indexOf(" ## ", from + begin.length());
        return DOCUMENT.substring(from, which == 0 ? DOCUMENT.indexOf("## Promise 1:") : to);
    }

    private static void fail(String what) {
        wrong++;
        System.out.println("promise " + promise + ", \"" + sentence + "\": " + what);
    }

    static void due(String what, long got, long want) {
        if (got != want) {
            fail(what + " answered " + got + ", due is " + want);
        }
    }

    /** A call answers by a code (or that there is none), and all is as if it had not come. */
    static void refused(Supplier<OneBell> maker, String what, long code, ToLongFunction<OneBell> call) {
        CODES.get(promise).add(code);
        OneBell asked = maker.get();
        due(what, call.applyAsLong(asked), code);
        String behind = look(asked);
        String due = look(maker.get());
        if (!behind.equals(due)) {
            fail(what + " changed " + due + " to " + behind);
        }
    }

    /** Each number is refused by a code. */
    static void refusedAll(Supplier<OneBell> maker, String what, long code, IntCall call, int... numbers) {
        for (int number : numbers) {
            refused(maker, what + " " + number, code, x -> call.ask(x, number));
        }
    }

    interface IntCall {
        long ask(OneBell x, int number);
    }

    static OneBell told(String text) {
        OneBell x = new OneBell();
        int lines = Texts.tell(x, text);
        if (lines < 0) {
            fail("the house " + text + " answered " + lines);
        }
        return x;
    }

    static int tellModel(Model model, String text) {
        for (int from = 0; from < text.length(); from += 20) {
            int[] five = Texts.five(text, from);
            model.feed(five[0], five[1], five[2], five[3], five[4]);
        }
        return model.house(text.length());
    }

    /** A house, FOUND, a fault behind it, rows of all kinds, one image, a tape. */
    static OneBell standard() {
        OneBell x = told("rooms 2;tones 1;lead 0 1;waiter 1;");
        x.brings(3, -1);
        x.image(0);
        Texts.tell(x, HOUSE);
        x.aparts(0, 1, 2);
        Texts.tell(x, "rooms 1;");
        fill(x);
        return x;
    }

    /** The same without a house. */
    static OneBell bare() {
        OneBell x = new OneBell();
        fill(x);
        return x;
    }

    /** Row 0 is a ROW of 3, row 1 is none, row 2 is MISSING, row 3 is a ROW of 9 (of no tones without a house). */
    private static void fill(OneBell x) {
        row(x, 0, 1, 0, 1, 0);
        row(x, 1, 0, 0, 9);
        row(x, 3, 3, x.count(0) == 0 ? new int[0] : new int[9]);
        int[] tape = Texts.five("rooms 2;tones 3;", 0);
        x.feed(tape[0], tape[1], tape[2], tape[3], tape[4]);
    }

    static void row(OneBell x, int row, int sort, int... numbers) {
        x.numbers(row, sort, numbers.length);
        for (int i = 0; i < numbers.length; i++) {
            x.write(row, i, numbers[i]);
        }
    }

    static int[] times(int many, int tone) {
        int[] tones = new int[many];
        java.util.Arrays.fill(tones, tone);
        return tones;
    }

    static void foundIs(OneBell x, int... tones) {
        due("found(-1)", x.found(-1), tones.length);
        for (int i = 0; i < tones.length; i++) {
            due("found(" + i + ")", x.found(i), tones[i]);
        }
        due("found behind the last", x.found(tones.length), -1);
    }

    /** All that can be known of an object; what is asked at the end changes it. */
    static String look(OneBell x) {
        StringBuilder all = new StringBuilder();
        lookAtHouse(x, all);
        all.append(" fault ").append(x.fault(0)).append(',').append(x.fault(1));
        for (int i = 0; i < 2; i++) {
            all.append(" image ").append(x.restore(i));
            lookAtHouse(x, all);
        }
        int taped = x.count(6);
        all.append(" tape ").append(taped).append(',').append(x.house(taped)).append(',').append(x.fault(1));
        lookAtHouse(x, all);
        Texts.tell(x, READER);
        for (int row = 0; row < 4; row++) {
            lookAtRow(x, row, all);
        }
        return all.toString();
    }

    /** The house and FOUND. */
    static String houseOf(OneBell x) {
        StringBuilder all = new StringBuilder();
        lookAtHouse(x, all);
        return all.toString();
    }

    private static void lookAtHouse(OneBell x, StringBuilder all) {
        all.append(" house ");
        for (int i = 0; i < 6; i++) {
            all.append(x.count(i)).append(',');
        }
        for (int r = 0; r < x.count(0); r++) {
            for (int t = 0; t < x.count(1); t++) {
                all.append(x.way(r, t, 0)).append('/').append(x.way(r, t, 1)).append('/').append(x.way(r, t, 2))
                    .append(' ');
            }
            all.append(x.room(r, 0)).append(x.room(r, 1)).append(x.room(r, 2)).append(' ');
        }
        for (int w = 0; w < x.count(3); w++) {
            all.append('w').append(x.waiter(w));
        }
        int many = x.found(-1);
        all.append(" found ").append(many).append(':');
        for (int i = 0; i < many; i++) {
            all.append(x.found(i));
        }
    }

    private static void lookAtRow(OneBell x, int row, StringBuilder all) {
        all.append(" row ").append(row).append(' ');
        int place = x.judge(row);
        for (int i = 0; i < 40 && place >= 0; i++) {
            all.append("no tone at ").append(place).append(' ');
            x.write(row, place, 0);
            place = x.judge(row);
        }
        for (int i = 0; i <= 40 && x.where(row, 0, i) >= 0; i++) {
            all.append(x.where(row, 0, i));
        }
        all.append(" sort ").append(x.write(row, 0, 0x123456789abcdef0L));
    }

    /** Whether each promise has its sentences, and each code that it names was seen under it. */
    static void complete() {
        for (promise = 1; promise <= 47; promise++) {
            sentence = "all of it";
            if (!CODES.containsKey(promise)) {
                fail("no sentence is held");
                continue;
            }
            Matcher codes = Pattern.compile("[ (]-([2-7])\\b").matcher(part(promise));
            while (codes.find()) {
                if (!CODES.get(promise).contains(-Long.parseLong(codes.group(1)))) {
                    fail("-" + codes.group(1) + " wasn't seen");
                }
            }
        }
    }

    static int wrongs() {
        return wrong;
    }
}
