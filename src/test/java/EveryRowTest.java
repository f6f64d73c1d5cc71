import java.util.ArrayList;
import java.util.List;
import java.util.Random;
import java.util.TreeSet;
import java.util.function.Predicate;
import java.util.function.ToIntFunction;

/**
 * Rows that are sought, held against all rows there are, one by one, the shorter ones and then the first by tones
 * first: in small houses, by the document's own words, with no search by sets or pairs.
 */
public final class EveryRowTest {
    private static int wrong;

    private final String text;
    private final int longest;
    private final List<int[]> rows = new ArrayList<>();
    private final int rooms;
    private final int tones;
    private final int waiters;
    private final int pantry;
    private final int[][] way;
    private final int[][] other;
    private final int[][] percent;
    private final int[] sign;
    private final int[] barred;
    private final int[] neverForTwo;
    private final int[] stands;
    private OneBell bell;
    private int asked;

    private EveryRowTest(String text, int longest) {
        this.text = text;
        this.longest = longest;
        OneBell x = bell();
        rooms = x.count(0);
        tones = x.count(1);
        waiters = x.count(3);
        pantry = x.count(4);
        way = ways(x, 0);
        other = ways(x, 1);
        percent = ways(x, 2);
        sign = ofRooms(x, 0);
        barred = ofRooms(x, 1);
        neverForTwo = ofRooms(x, 2);
        stands = new int[waiters];
        for (int w = 0; w < waiters; w++) {
            stands[w] = x.waiter(w);
        }
        for (int n = 0; n <= longest; n++) {
            addRows(n);
        }
    }

    /** An object is used for 512 calls at most, so there is a new one now and then. */
    private OneBell bell() {
        if (asked % 16 == 0) {
            bell = new OneBell();
            Texts.tell(bell, text);
        }
        asked++;
        return bell;
    }

    private int[][] ways(OneBell x, int what) {
        int[][] all = new int[rooms][tones];
        for (int r = 0; r < rooms; r++) {
            for (int t = 0; t < tones; t++) {
                all[r][t] = x.way(r, t, what);
            }
        }
        return all;
    }

    private int[] ofRooms(OneBell x, int what) {
        int[] all = new int[rooms];
        for (int r = 0; r < rooms; r++) {
            all[r] = x.room(r, what);
        }
        return all;
    }

    private void addRows(int n) {
        for (int which = 0; which < Math.pow(tones, n); which++) {
            int[] row = new int[n];
            int rest = which;
            for (int i = n - 1; i >= 0; i--) {
                row[i] = rest % tones;
                rest /= tones;
            }
            rows.add(row);
        }
    }

    private void due(String what, long got, long want) {
        if (got != want) {
            wrong++;
            System.out.println(what + " answered " + got + ", due is " + want + " in " + text);
        }
    }

    private static String shown(int[] row) {
        StringBuilder all = new StringBuilder();
        for (int tone : row) {
            all.append(tone);
        }
        return all.toString();
    }

    private static String foundRow(OneBell x) {
        int[] row = new int[Math.max(0, x.found(-1))];
        for (int i = 0; i < row.length; i++) {
            row[i] = x.found(i);
        }
        return x.found(-1) < 0 ? "none" : shown(row);
    }

    private int[] first(Predicate<int[]> does) {
        for (int[] row : rows) {
            if (does.test(row)) {
                return row;
            }
        }
        return null;
    }

    /** The first row that does what is told is the one that the call finds; without one it is longer, or none. */
    private void finds(String what, ToIntFunction<OneBell> call, Predicate<int[]> does) {
        OneBell x = bell();
        x.telling(1, false);
        int got = call.applyAsInt(x);
        String found = foundRow(x);
        int[] row = first(does);
        if (row == null) {
            due(what + " is as short", got > longest || got == -1 ? 1 : 0, 1);
            due(what + " leaves FOUND", got == -1 && !found.isEmpty() ? 1 : 0, 0);
        } else {
            due(what, got, row.length);
            if (!found.equals(shown(row))) {
                wrong++;
                System.out.println(what + " found " + found + ", due is " + shown(row) + " in " + text);
            }
        }
    }

    // ---- where rows lead

    private int plain(int room, int[] row, int tonesRung) {
        int at = room;
        for (int i = 0; i < tonesRung; i++) {
            at = way[at][row[i]];
        }
        return at;
    }

    /** All rooms in which one may be behind the first tones of a row, one of which (or none: -1) isn't rung. */
    private TreeSet<Integer> may(int room, int[] row, int tonesRung, int lost) {
        TreeSet<Integer> now = new TreeSet<>(List.of(room));
        for (int i = 0; i < tonesRung; i++) {
            TreeSet<Integer> next = new TreeSet<>();
            for (int at : now) {
                next.add(i == lost ? at : way[at][row[i]]);
                if (i != lost && percent[at][row[i]] > 0) {
                    next.add(other[at][row[i]]);
                }
            }
            now = next;
        }
        return now;
    }

    private TreeSet<Integer> mayAll(int set, int[] row, int tonesRung, int lost) {
        TreeSet<Integer> all = new TreeSet<>();
        for (int room = 0; room < rooms; room++) {
            if ((set >> room & 1) == 1) {
                all.addAll(may(room, row, tonesRung, lost));
            }
        }
        return all;
    }

    private static int bits(TreeSet<Integer> set) {
        int bits = 0;
        for (int one : set) {
            bits |= 1 << one;
        }
        return bits;
    }

    // ---- brought together

    private boolean brings(int set, int goal, int[] row) {
        TreeSet<Integer> all = mayAll(set, row, row.length, -1);
        return goal == -1 ? all.size() == 1 : (bits(all) & ~goal) == 0;
    }

    private boolean staysClean(int set, int[] row) {
        for (int i = 1; i <= row.length; i++) {
            for (int room : mayAll(set, row, i, -1)) {
                if (barred[room] == 1) {
                    return false;
                }
            }
        }
        return true;
    }

    private boolean bringsThoughLost(int set, int[] row) {
        for (int lost = -1; lost < row.length; lost++) {
            if (!mayAll(set, row, row.length, lost).equals(new TreeSet<>(List.of(pantry)))) {
                return false;
            }
        }
        return true;
    }

    private void broughtTogether() {
        for (int set = 1; set < 1 << rooms; set++) {
            int from = set;
            for (int goal = -1; goal < 1 << rooms; goal++) {
                int to = goal;
                if (goal != 0) {
                    finds("brings(" + set + ", " + goal + ")", x -> x.brings(from, to), row -> brings(from, to, row));
                    finds("clean(" + set + ", " + goal + ")", x -> x.clean(from, to),
                        row -> brings(from, to, row) && staysClean(from, row));
                }
            }
            finds("lost(" + set + ")", x -> x.lost(from), row -> bringsThoughLost(from, row));
            pairedFrom(set);
        }
    }

    private boolean meets(int a, int b, int[] row) {
        return plain(a, row, row.length) == plain(b, row, row.length);
    }

    /** In houses so small a MEET, if there is one, is among the rows. */
    private void pairedFrom(int set) {
        TreeSet<Integer> left = new TreeSet<>();
        for (int room = 0; room < rooms; room++) {
            if ((set >> room & 1) == 1) {
                left.add(room);
            }
        }
        StringBuilder all = new StringBuilder();
        while (left.size() > 1) {
            int[] best = nearestMeet(left);
            if (best == null) {
                due("paired(" + set + ")", bell().paired(set), -1);
                return;
            }
            all.append(shown(best));
            TreeSet<Integer> next = new TreeSet<>();
            for (int room : left) {
                next.add(plain(room, best, best.length));
            }
            left = next;
        }
        OneBell x = bell();
        due("paired(" + set + ")", x.paired(set), all.length());
        due("paired(" + set + ") finds it", foundRow(x).equals(all.toString()) ? 1 : 0, 1);
    }

    private int[] nearestMeet(TreeSet<Integer> left) {
        int[] best = null;
        for (int a : left) {
            for (int b : left.tailSet(a, false)) {
                int[] row = first(r -> meets(a, b, r));
                if (row != null && (best == null || row.length < best.length)) {
                    best = row;
                }
            }
        }
        return best;
    }

    private void pairs() {
        int never = -1;
        for (int a = rooms - 1; a >= 0; a--) {
            for (int b = rooms - 1; b >= 0; b--) {
                int one = a;
                int two = b;
                int[] row = first(r -> meets(one, two, r));
                due("meet(" + a + ", " + b + ")", bell().meet(a, b), row == null ? -1 : row.length);
                never = row == null && a < b ? 100 * a + b : never;
                finds("proof(" + a + ", " + b + ")", x -> x.proof(one, two), r -> tells(one, two, r));
                due("alike(" + a + ", " + b + ")", bell().alike(a, b), first(r -> tells(one, two, r)) == null ? 1 : 0);
            }
        }
        due("never()", bell().never(), never);
    }

    private boolean tells(int a, int b, int[] row) {
        return sign[plain(a, row, row.length)] != sign[plain(b, row, row.length)];
    }

    private void counted() {
        int[] bringing = new int[longest + 1];
        int least = rooms;
        for (int[] row : rows) {
            int many = mayAll((1 << rooms) - 1, row, row.length, -1).size();
            bringing[row.length] += many == 1 ? 1 : 0;
            least = Math.min(least, many);
        }
        due("rank() is no more", bell().rank() <= least ? 1 : 0, 1);
        if (rooms < 4) {
            due("rank()", bell().rank(), least);
        }
        for (int n = 0; n <= longest && n <= 12; n++) {
            due("ways(" + n + ")", bell().ways(n), bringing[n]);
        }
    }

    /** Three rooms come into the pantry by 6 tones, or never do. */
    private void homes() {
        if (rooms > 3 || longest < 6) {
            return;
        }
        int spared = 0;
        for (int t = 0; t < tones; t++) {
            spared |= isHome(t) ? 1 << t : 0;
        }
        due("spare()", bell().spare(), spared);
        int[] mended = isHome(-1) ? new int[] {-5, -5, -5} : mend();
        for (int what = 0; what < 3; what++) {
            due("mended(" + what + ")", bell().mended(what), mended[what]);
        }
    }

    private boolean isHome(int unrung) {
        return first(row -> {
            for (int room = 0; room < rooms; room++) {
                int at = room;
                for (int tone : row) {
                    if (tone == unrung) {
                        return false;
                    }
                    at = way[at][tone];
                }
                if (at != pantry) {
                    return false;
                }
            }
            return true;
        }) != null;
    }

    private int[] mend() {
        for (int r = 0; r < rooms; r++) {
            for (int t = 0; t < tones; t++) {
                for (int to = 0; to < rooms; to++) {
                    int old = way[r][t];
                    way[r][t] = to;
                    boolean mends = to != old && isHome(-1);
                    way[r][t] = old;
                    if (mends) {
                        return new int[] {r, t, to};
                    }
                }
            }
        }
        return new int[] {-1, -1, -1};
    }

    // ---- waiters led, kept apart

    private boolean isAmiss(int led, int[] row, int tonesRung) {
        int[] here = new int[rooms];
        for (int w = 0; w < waiters; w++) {
            if ((led >> w & 1) == 1) {
                here[plain(stands[w], row, tonesRung)]++;
            }
        }
        for (int room = 0; room < rooms; room++) {
            if (here[room] > 0 && barred[room] == 1 || here[room] > 1 && neverForTwo[room] == 1) {
                return true;
            }
        }
        return false;
    }

    private boolean leads(int led, int room, int[] row) {
        for (int w = 0; w < waiters; w++) {
            if ((led >> w & 1) == 1 && plain(stands[w], row, row.length) != room) {
                return false;
            }
        }
        for (int i = 0; i <= row.length; i++) {
            if (isAmiss(led, row, i)) {
                return false;
            }
        }
        return true;
    }

    private boolean leadsDeaf(int one, int two, int unheard, int[] row) {
        int second = stands[two];
        for (int tone : row) {
            second = (unheard >> tone & 1) == 1 ? second : way[second][tone];
        }
        return plain(stands[one], row, row.length) == pantry && second == pantry;
    }

    private boolean keepsApart(int one, int two, int[] row) {
        for (int i = 1; i <= row.length; i++) {
            if (plain(stands[one], row, i) == plain(stands[two], row, i)) {
                return false;
            }
        }
        return true;
    }

    private void ledAndApart() {
        for (int bits = 0; bits < 1 << waiters; bits++) {
            int led = bits;
            for (int room = 0; room < rooms && (Integer.bitCount(bits) & ~1) == 2; room++) {
                int to = room;
                finds("leads(" + bits + ", " + room + ")", x -> x.leads(led, to), row -> leads(led, to, row));
            }
        }
        for (int one = 0; one < waiters; one++) {
            for (int two = 0; two < waiters; two++) {
                if (one != two) {
                    deafAndApart(one, two);
                }
            }
        }
    }

    private void deafAndApart(int one, int two) {
        for (int set = 0; set < 1 << tones; set++) {
            int unheard = set;
            finds("deaf(" + one + ", " + two + ", " + set + ")", x -> x.deaf(one, two, unheard),
                row -> leadsDeaf(one, two, unheard, row));
        }
        int[] apart = new int[longest + 1];
        for (int[] row : rows) {
            apart[row.length] += keepsApart(one, two, row) ? 1 : 0;
        }
        for (int n = 0; n <= longest; n++) {
            int many = n;
            String what = "(" + one + ", " + two + ", " + n + ")";
            due("apart" + what, bell().apart(one, two, n), apart[n]);
            finds("aparts" + what, x -> x.aparts(one, two, many),
                row -> row.length == many && keepsApart(one, two, row));
        }
    }

    // ---- chances

    /** The parts of one who is in a room, of all that may come, one by one. */
    private long parts(int at, int[] row, int rung, int room) {
        if (rung == row.length) {
            return at == room ? 1 : 0;
        }
        int chance = percent[at][row[rung]];
        long sum = (100 - chance) * parts(way[at][row[rung]], row, rung + 1, room);
        return chance == 0 ? sum : sum + chance * parts(other[at][row[rung]], row, rung + 1, room);
    }

    private long allThere(int[] row) {
        long all = (long) Math.pow(100, row.length);
        long value = 1000000000;
        for (int at : stands) {
            value = value * parts(at, row, 0, pantry) / all;
        }
        return value;
    }

    private static void write(OneBell x, int[] row) {
        x.numbers(0, 0, row.length);
        for (int i = 0; i < row.length; i++) {
            x.write(0, i, row[i]);
        }
    }

    private void chances(Random random) {
        for (int i = 0; i < 12; i++) {
            int[] row = rows.get(random.nextInt(rows.size()));
            OneBell x = bell();
            write(x, row);
            for (int w = 0; w < waiters; w++) {
                int room = random.nextInt(rooms);
                due("parts of " + shown(row), x.parts(0, w, room), parts(stands[w], row, 0, room));
            }
            due("there behind " + shown(row), x.there(0), row.length > 4 ? -3 : allThere(row));
        }
        for (int n = 0; n <= 4; n++) {
            best(n);
        }
    }

    private void best(int n) {
        long greatest = -1;
        for (int[] row : rows) {
            greatest = row.length <= n ? Math.max(greatest, allThere(row)) : greatest;
        }
        long wanted = greatest;
        OneBell x = bell();
        due("best(" + n + ")", x.best(n), greatest);
        int[] row = first(r -> r.length <= n && allThere(r) == wanted);
        due("best(" + n + ") finds it", row != null && foundRow(x).equals(shown(row)) ? 1 : 0, 1);
    }

    private void all(Random random) {
        broughtTogether();
        pairs();
        counted();
        homes();
        ledAndApart();
        chances(random);
    }

    public static void main(String[] arguments) {
        int houses = arguments.length > 0 ? Integer.parseInt(arguments[0]) : 150;
        int from = arguments.length > 1 ? Integer.parseInt(arguments[1]) : 0;
        for (int seed = from; seed < from + houses && wrong < 20; seed++) {
            Random random = new Random(seed);
            String text = Texts.house(random, 4, 3);
            boolean few = text.contains("tones 1;") || text.contains("tones 2;");
            new EveryRowTest(text, few ? 8 : 6).all(random);
        }
        System.out.println(wrong == 0 ? "all rows are the first that do" : wrong + " answers are not as due");
        if (wrong != 0) {
            System.exit(1);
        }
    }
}
