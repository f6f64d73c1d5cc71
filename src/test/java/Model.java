import java.math.BigInteger;
import java.util.ArrayList;
import java.util.Arrays;
import java.util.HashMap;
import java.util.HashSet;
import java.util.LinkedHashMap;
import java.util.List;
import java.util.Map;
import java.util.Set;
import java.util.TreeMap;
import java.util.TreeSet;
import java.util.function.BiFunction;
import java.util.function.Function;
import java.util.function.Predicate;
import java.util.regex.Matcher;
import java.util.regex.Pattern;

/** The document once more, as slowly and plainly as can be, to hold the program's answers against. */
public final class Model {
    static final int NONE = -1;
    static final BigInteger PRIME = BigInteger.valueOf(1000000007);

    static final class Home {
        int rooms;
        int tones;
        int lines;
        int pantry;
        int[][] way = new int[14][6];
        int[][] other = new int[14][6];
        int[][] percent = new int[14][6];
        Set<Integer> barred = new TreeSet<>();
        Set<Integer> lonely = new TreeSet<>();
        int[] sign = new int[14];
        List<Integer> waiters = new ArrayList<>();

        Set<Integer> may(int room, int tone) {
            Set<Integer> to = new TreeSet<>();
            to.add(way[room][tone]);
            if (percent[room][tone] > 0) {
                to.add(other[room][tone]);
            }
            return to;
        }

        Set<Integer> mayAll(Set<Integer> from, int tone) {
            Set<Integer> to = new TreeSet<>();
            for (int room : from) {
                to.addAll(may(room, tone));
            }
            return to;
        }

        int walk(int room, List<Integer> row) {
            int at = room;
            for (int tone : row) {
                at = way[at][tone];
            }
            return at;
        }
    }

    static final class Fault extends RuntimeException {
        private static final long serialVersionUID = 1L;

        final int kind;
        final int place;

        Fault(int kind, int place) {
            this.kind = kind;
            this.place = place;
        }
    }

    private List<Integer> tape = new ArrayList<>();
    private Home home = new Home();
    private List<Integer> found = null;
    private int faultKind = 0;
    private int faultPlace = NONE;
    private final long[][] rows = new long[4][];
    private final int[] sorts = new int[4];
    private final Home[] homes = new Home[2];
    private final List<List<Integer>> founds = new ArrayList<>(Arrays.asList(null, null));

    // ---- the house

    public int feed(int a, int b, int c, int d, int e) {
        if (tape.size() + 20 > 600) {
            return -5;
        }
        for (int four : new int[] {a, b, c, d, e}) {
            for (byte one : java.nio.ByteBuffer.allocate(4).putInt(four).array()) {
                tape.add(one & 255);
            }
        }
        return tape.size();
    }

    public int house(int n) {
        if (n < 0 || n > tape.size()) {
            return -3;
        }
        StringBuilder text = new StringBuilder();
        for (int i = 0; i < n; i++) {
            text.append((char) (int) tape.get(i));
        }
        tape.clear();
        try {
            home = read(text.toString());
        } catch (Fault fault) {
            faultKind = fault.kind;
            faultPlace = fault.place;
            return -30 - fault.kind;
        }
        faultKind = 0;
        faultPlace = NONE;
        found = null;
        return home.lines;
    }

    private static final Pattern TOKEN = Pattern.compile("[ \n]*([a-z]+|[0-9]+|;|[^ \n]|$)", Pattern.DOTALL);

    private String token;
    private int place;
    private Matcher tokens;

    private void step() {
        if (!tokens.find()) {
            throw new AssertionError("behind the end");
        }
        token = tokens.group(1);
        place = tokens.start(1);
        boolean digits = !token.isEmpty() && Character.isDigit(token.charAt(0)) && token.charAt(0) < 128;
        if (digits ? token.length() > 3 : !token.isEmpty() && !token.matches("[a-z]+|;")) {
            throw new Fault(1, place);
        }
    }

    private int number(int least, int most) {
        step();
        if (token.isEmpty() || !Character.isDigit(token.charAt(0))) {
            throw new Fault(2, place);
        }
        int value = Integer.parseInt(token);
        if (value < least || value > most) {
            throw new Fault(3, place);
        }
        return value;
    }

    private Home read(String text) {
        Home h = new Home();
        for (int r = 0; r < 14; r++) {
            Arrays.fill(h.way[r], r);
            Arrays.fill(h.other[r], NONE);
        }
        tokens = TOKEN.matcher(text);
        while (true) {
            step();
            if (token.isEmpty()) {
                if (h.rooms > 0 && h.tones == 0) {
                    throw new Fault(2, text.length());
                }
                return h;
            }
            boolean known = List.of("rooms", "tones", "lead", "chance", "stuck", "bar", "two", "sign", "pantry",
                "waiter").contains(token);
            if (!known) {
                throw new Fault(2, place);
            }
            boolean early = token.equals("rooms") ? false : token.equals("tones") ? h.rooms == 0 : h.tones == 0;
            if (early) {
                throw new Fault(2, place);
            }
            if (token.equals("rooms") && h.rooms > 0 || token.equals("tones") && h.tones > 0
                || token.equals("waiter") && h.waiters.size() == 8) {
                throw new Fault(4, place);
            }
            readLine(h, token);
            step();
            if (!token.equals(";")) {
                throw new Fault(2, token.isEmpty() ? text.length() : place);
            }
            h.lines++;
        }
    }

    private void readLine(Home h, String word) {
        if (word.equals("rooms")) {
            h.rooms = number(2, 14);
            return;
        }
        if (word.equals("tones")) {
            h.tones = number(1, 6);
            return;
        }
        int room = number(0, h.rooms - 1);
        if (word.equals("lead")) {
            for (int t = 0; t < h.tones; t++) {
                h.way[room][t] = number(0, h.rooms - 1);
                h.percent[room][t] = 0;
                h.other[room][t] = NONE;
            }
        } else if (word.equals("chance")) {
            int tone = number(0, h.tones - 1);
            int to = number(0, h.rooms - 1);
            if (to == h.way[room][tone]) {
                throw new Fault(3, place);
            }
            h.percent[room][tone] = number(1, 99);
            h.other[room][tone] = to;
        } else if (word.equals("stuck")) {
            int tone = number(0, h.tones - 1);
            h.way[room][tone] = room;
            h.percent[room][tone] = 0;
            h.other[room][tone] = NONE;
        } else if (word.equals("bar")) {
            h.barred.add(room);
        } else if (word.equals("two")) {
            h.lonely.add(room);
        } else if (word.equals("sign")) {
            h.sign[room] = number(0, 9);
        } else if (word.equals("pantry")) {
            h.pantry = room;
        } else {
            h.waiters.add(room);
        }
    }

    public int fault(int what) {
        return what == 0 ? faultKind : what == 1 ? faultPlace : NONE;
    }

    public int way(int room, int tone, int what) {
        if (noRoom(room) || tone < 0 || tone >= home.tones || what < 0 || what > 2) {
            return -2;
        }
        return what == 0 ? home.way[room][tone] : what == 1 ? home.other[room][tone] : home.percent[room][tone];
    }

    public int room(int room, int what) {
        if (noRoom(room) || what < 0 || what > 2) {
            return -2;
        }
        if (what == 0) {
            return home.sign[room];
        }
        return (what == 1 ? home.barred : home.lonely).contains(room) ? 1 : 0;
    }

    public int waiter(int w) {
        return noWaiter(w) ? -2 : home.waiters.get(w);
    }

    public int reach(int room) {
        if (noRoom(room)) {
            return -2;
        }
        Set<Integer> reached = new TreeSet<>(Set.of(room));
        for (int i = 0; i < 20; i++) {
            for (int t = 0; t < home.tones; t++) {
                reached.addAll(home.mayAll(reached, t));
            }
        }
        return bits(reached);
    }

    private boolean noRoom(int room) {
        return room < 0 || room >= home.rooms;
    }

    private boolean noWaiter(int w) {
        return w < 0 || w >= home.waiters.size();
    }

    private static boolean noRow(int row) {
        return row < 0 || row > 3;
    }

    private boolean noSet(int set) {
        return set <= 0 || set >= 1 << home.rooms;
    }

    private static int bits(Set<Integer> set) {
        int bits = 0;
        for (int one : set) {
            bits |= 1 << one;
        }
        return bits;
    }

    private static Set<Integer> setOf(int bits) {
        Set<Integer> set = new TreeSet<>();
        for (int i = 0; i < 31; i++) {
            if ((bits >> i & 1) == 1) {
                set.add(i);
            }
        }
        return set;
    }

    // ---- rows

    /** 0, -6 or -3. */
    private int rowCode(int row) {
        if (rows[row] == null) {
            return -6;
        }
        for (long v : rows[row]) {
            if (v < 0 || v >= home.tones) {
                return -3;
            }
        }
        return 0;
    }

    private List<Integer> rowOf(int row) {
        List<Integer> tones = new ArrayList<>();
        for (long v : rows[row]) {
            tones.add((int) v);
        }
        return tones;
    }

    public int judge(int row) {
        if (noRow(row)) {
            return -2;
        }
        if (home.tones == 0) {
            return -5;
        }
        if (rows[row] == null) {
            return -6;
        }
        for (int i = 0; i < rows[row].length; i++) {
            if (rows[row][i] < 0 || rows[row][i] >= home.tones) {
                return i;
            }
        }
        return NONE;
    }

    public int where(int row, int w, int i) {
        if (noRow(row) || noWaiter(w)) {
            return -2;
        }
        if (rowCode(row) != 0) {
            return rowCode(row);
        }
        if (i < 0 || i > rows[row].length) {
            return -3;
        }
        return home.walk(home.waiters.get(w), rowOf(row).subList(0, i));
    }

    public int meeting(int row, int what) {
        if (noRow(row) || what < 0 || what > 1) {
            return -2;
        }
        if (rowCode(row) != 0) {
            return rowCode(row);
        }
        for (int i = 1; i <= rows[row].length; i++) {
            for (int a = 0; a < home.waiters.size(); a++) {
                for (int b = a + 1; b < home.waiters.size(); b++) {
                    if (where(row, a, i) == where(row, b, i)) {
                        return what == 0 ? i : 10 * a + b;
                    }
                }
            }
        }
        return NONE;
    }

    private boolean isAmiss(int room, List<Integer> spots) {
        int here = 0;
        for (int spot : spots) {
            here += spot == room ? 1 : 0;
        }
        return here > 0 && home.barred.contains(room) || here > 1 && home.lonely.contains(room);
    }

    public int amiss(int row, int what) {
        if (noRow(row) || what < 0 || what > 1) {
            return -2;
        }
        if (rowCode(row) != 0) {
            return rowCode(row);
        }
        for (int i = 0; i <= rows[row].length; i++) {
            List<Integer> spots = new ArrayList<>();
            for (int w = 0; w < home.waiters.size(); w++) {
                spots.add(where(row, w, i));
            }
            for (int room = 0; room < home.rooms; room++) {
                if (isAmiss(room, spots)) {
                    return what == 0 ? i : room;
                }
            }
        }
        return NONE;
    }

    public int sees(int row, int w, int i) {
        int at = where(row, w, i);
        return at < 0 ? at : home.sign[at];
    }

    public int after(int row, int set) {
        if (noRow(row)) {
            return -2;
        }
        if (rowCode(row) != 0) {
            return rowCode(row);
        }
        if (noSet(set)) {
            return -3;
        }
        Set<Integer> now = setOf(set);
        for (int tone : rowOf(row)) {
            now = home.mayAll(now, tone);
        }
        return bits(now);
    }

    // ---- brought together

    private static final class TooMany extends RuntimeException {
        private static final long serialVersionUID = 1L;
    }

    /** The first row of the shortest by which a state that is sought comes about; null without. */
    private <S> List<Integer> seek(S start, BiFunction<S, Integer, S> ring, Predicate<S> sought, int limit) {
        Map<S, List<Integer>> known = new HashMap<>();
        LinkedHashMap<List<Integer>, S> level = new LinkedHashMap<>();
        level.put(List.of(), start);
        if (sought.test(start)) {
            return List.of();
        }
        known.put(start, List.of());
        while (!level.isEmpty()) {
            LinkedHashMap<List<Integer>, S> next = new LinkedHashMap<>();
            for (Map.Entry<List<Integer>, S> one : level.entrySet()) {
                for (int t = 0; t < home.tones; t++) {
                    S state = ring.apply(one.getValue(), t);
                    if (state == null || known.containsKey(state)) {
                        continue;
                    }
                    List<Integer> row = new ArrayList<>(one.getKey());
                    row.add(t);
                    if (sought.test(state)) {
                        return row;
                    }
                    known.put(state, row);
                    if (known.size() > limit) {
                        throw new TooMany();
                    }
                    next.put(row, state);
                }
            }
            level = next;
        }
        return null;
    }

    private int keep(List<Integer> row) {
        if (row == null) {
            return NONE;
        }
        if (row.size() <= 500) {
            found = row;
        }
        return row.size();
    }

    public int brings(int set, int goal) {
        return bring(set, goal, Set.of());
    }

    public int clean(int set, int goal) {
        return bring(set, goal, home.barred);
    }

    private int bring(int set, int goal, Set<Integer> shunned) {
        if (noSet(set) || goal != NONE && noSet(goal)) {
            return -3;
        }
        return keep(seek(setOf(set), (s, t) -> {
            Set<Integer> to = home.mayAll(s, t);
            for (int room : to) {
                if (shunned.contains(room)) {
                    return null;
                }
            }
            return to;
        }, s -> goal == NONE ? s.size() == 1 : setOf(goal).containsAll(s), Integer.MAX_VALUE));
    }

    public int rank() {
        if (home.rooms == 0) {
            return -5;
        }
        int[] least = {99};
        seek(setOf((1 << home.rooms) - 1), home::mayAll, s -> {
            least[0] = Math.min(least[0], s.size());
            return false;
        }, Integer.MAX_VALUE);
        return least[0];
    }

    private List<Integer> meetRow(int a, int b) {
        return seek(List.of(a, b), (s, t) -> List.of(home.way[s.get(0)][t], home.way[s.get(1)][t]),
            s -> s.get(0).equals(s.get(1)), Integer.MAX_VALUE);
    }

    public int meet(int a, int b) {
        if (noRoom(a) || noRoom(b)) {
            return -2;
        }
        List<Integer> row = meetRow(a, b);
        return row == null ? NONE : row.size();
    }

    public int never() {
        for (int a = 0; a < home.rooms; a++) {
            for (int b = a + 1; b < home.rooms; b++) {
                if (meetRow(a, b) == null) {
                    return 100 * a + b;
                }
            }
        }
        return NONE;
    }

    public int paired(int set) {
        if (noSet(set)) {
            return -3;
        }
        Set<Integer> left = setOf(set);
        List<Integer> all = new ArrayList<>();
        while (left.size() > 1) {
            List<Integer> best = null;
            for (int a : left) {
                for (int b : left) {
                    List<Integer> row = a < b ? meetRow(a, b) : null;
                    if (row != null && (best == null || row.size() < best.size())) {
                        best = row;
                    }
                }
            }
            if (best == null) {
                return NONE;
            }
            all.addAll(best);
            Set<Integer> next = new TreeSet<>();
            for (int room : left) {
                next.add(home.walk(room, best));
            }
            left = next;
        }
        if (all.size() > 500) {
            return NONE;
        }
        return keep(all);
    }

    public int lost(int set) {
        if (noSet(set)) {
            return -3;
        }
        Set<Integer> pantry = Set.of(home.pantry);
        try {
            return keep(seek(List.of(setOf(set), new TreeSet<Integer>()), (s, t) -> {
                Set<Integer> lacking = new TreeSet<>(home.mayAll(s.get(1), t));
                lacking.addAll(s.get(0));
                return List.of(home.mayAll(s.get(0), t), lacking);
            }, s -> pantry.containsAll(s.get(0)) && pantry.containsAll(s.get(1)), 30000));
        } catch (TooMany full) {
            return -4;
        }
    }

    private boolean isHome(Set<Integer> tones) {
        return seek(setOf((1 << home.rooms) - 1), (s, t) -> {
            if (!tones.contains(t)) {
                return null;
            }
            Set<Integer> to = new TreeSet<>();
            for (int room : s) {
                to.add(home.way[room][t]);
            }
            return to;
        }, s -> s.equals(Set.of(home.pantry)), Integer.MAX_VALUE) != null;
    }

    public int spare() {
        if (home.rooms == 0) {
            return -5;
        }
        int spared = 0;
        for (int t = 0; t < home.tones; t++) {
            Set<Integer> others = setOf((1 << home.tones) - 1);
            others.remove(t);
            spared |= isHome(others) ? 1 << t : 0;
        }
        return spared;
    }

    public int mended(int what) {
        if (what < 0 || what > 2) {
            return -2;
        }
        Set<Integer> all = setOf((1 << home.tones) - 1);
        if (home.rooms == 0 || isHome(all)) {
            return -5;
        }
        for (int r = 0; r < home.rooms; r++) {
            for (int t = 0; t < home.tones; t++) {
                int old = home.way[r][t];
                for (int to = 0; to < home.rooms; to++) {
                    home.way[r][t] = to;
                    boolean mends = to != old && isHome(all);
                    home.way[r][t] = old;
                    if (mends) {
                        return what == 0 ? r : what == 1 ? t : to;
                    }
                }
            }
        }
        return NONE;
    }

    public int kernel(int row, int room) {
        if (noRow(row) || noRoom(room)) {
            return -2;
        }
        if (rowCode(row) != 0) {
            return rowCode(row);
        }
        int like = 0;
        for (int r = 0; r < home.rooms; r++) {
            like |= home.walk(r, rowOf(row)) == home.walk(room, rowOf(row)) ? 1 << r : 0;
        }
        return like;
    }

    public int ways(int n) {
        if (home.rooms == 0) {
            return -5;
        }
        if (n < 0 || n > 12) {
            return -3;
        }
        Map<Set<Integer>, BigInteger> now = new HashMap<>();
        now.put(setOf((1 << home.rooms) - 1), BigInteger.ONE);
        for (int i = 0; i < n; i++) {
            Map<Set<Integer>, BigInteger> next = new HashMap<>();
            for (Map.Entry<Set<Integer>, BigInteger> one : now.entrySet()) {
                for (int t = 0; t < home.tones; t++) {
                    next.merge(home.mayAll(one.getKey(), t), one.getValue(), BigInteger::add);
                }
            }
            now = next;
        }
        BigInteger sum = BigInteger.ZERO;
        for (Map.Entry<Set<Integer>, BigInteger> one : now.entrySet()) {
            sum = one.getKey().size() == 1 ? sum.add(one.getValue()) : sum;
        }
        return sum.mod(PRIME).intValue();
    }

    // ---- seeing

    private List<Integer> seen(int room, List<Integer> row) {
        List<Integer> signs = new ArrayList<>();
        for (int i = 0; i <= row.size(); i++) {
            signs.add(home.sign[home.walk(room, row.subList(0, i))]);
        }
        return signs;
    }

    private int doubts(List<Integer> row, int set, boolean now) {
        int doubts = 0;
        for (int a : setOf(set)) {
            boolean in = false;
            for (int b : setOf(set)) {
                in |= a != b && seen(a, row).equals(seen(b, row))
                    && !(now && home.walk(a, row) == home.walk(b, row));
            }
            doubts += in ? 1 : 0;
        }
        return doubts;
    }

    public int doubt(int row, int set, boolean now) {
        if (noRow(row)) {
            return -2;
        }
        if (rowCode(row) != 0) {
            return rowCode(row);
        }
        return noSet(set) ? -3 : doubts(rowOf(row), set, now);
    }

    /** All rows of so many tones, the first by tones first. */
    private List<List<Integer>> rowsOf(int n) {
        List<List<Integer>> all = new ArrayList<>();
        if (n == 0) {
            all.add(List.of());
            return all;
        }
        for (List<Integer> shorter : rowsOf(n - 1)) {
            for (int t = 0; t < home.tones; t++) {
                List<Integer> row = new ArrayList<>(shorter);
                row.add(t);
                all.add(row);
            }
        }
        return all;
    }

    public int telling(int set, boolean now) {
        if (noSet(set)) {
            return -3;
        }
        int fewest = 99;
        for (int n = 0; n <= 5; n++) {
            for (List<Integer> row : rowsOf(n)) {
                int doubts = doubts(row, set, now);
                if (doubts < fewest) {
                    fewest = doubts;
                    found = row;
                }
                if (fewest == 0) {
                    return 0;
                }
            }
        }
        return fewest;
    }

    public int byTurns(int set) {
        if (noSet(set)) {
            return -3;
        }
        for (int n = 0; n <= 40; n++) {
            if (narrowed(setOf(set), n, new HashMap<>())) {
                return n;
            }
        }
        return NONE;
    }

    /** Whether n tones are enough, whatever is seen of the room now. */
    private boolean narrowed(Set<Integer> set, int n, Map<List<Object>, Boolean> known) {
        Map<Integer, Set<Integer>> bySign = new TreeMap<>();
        for (int room : set) {
            bySign.computeIfAbsent(home.sign[room], s -> new TreeSet<>()).add(room);
        }
        for (Set<Integer> part : bySign.values()) {
            if (part.size() > 1 && !knownWithin(part, n, known)) {
                return false;
            }
        }
        return true;
    }

    private boolean knownWithin(Set<Integer> part, int n, Map<List<Object>, Boolean> known) {
        if (n == 0) {
            return false;
        }
        List<Object> key = List.of(part, n);
        if (!known.containsKey(key)) {
            boolean can = false;
            for (int t = 0; t < home.tones && !can; t++) {
                Set<Integer> to = new TreeSet<>();
                for (int room : part) {
                    to.add(home.way[room][t]);
                }
                can = narrowed(to, n - 1, known);
            }
            known.put(key, can);
        }
        return known.get(key);
    }

    private List<Integer> proofRow(int a, int b) {
        return seek(List.of(a, b), (s, t) -> List.of(home.way[s.get(0)][t], home.way[s.get(1)][t]),
            s -> home.sign[s.get(0)] != home.sign[s.get(1)], Integer.MAX_VALUE);
    }

    public int alike(int a, int b) {
        if (noRoom(a) || noRoom(b)) {
            return -2;
        }
        return proofRow(a, b) == null ? 1 : 0;
    }

    public int classes() {
        Set<Set<Integer>> kinds = new HashSet<>();
        for (int a = 0; a < home.rooms; a++) {
            Set<Integer> like = new TreeSet<>();
            for (int b = 0; b < home.rooms; b++) {
                if (alike(a, b) == 1) {
                    like.add(b);
                }
            }
            kinds.add(like);
        }
        return kinds.size();
    }

    public int proof(int a, int b) {
        if (noRoom(a) || noRoom(b)) {
            return -2;
        }
        return keep(proofRow(a, b));
    }

    // ---- waiters led, kept apart

    private List<Integer> ringAll(List<Integer> spots, int tone) {
        List<Integer> next = new ArrayList<>();
        for (int spot : spots) {
            next.add(home.way[spot][tone]);
        }
        return next;
    }

    public int leads(int waiters, int room) {
        if (noRoom(room)) {
            return -2;
        }
        int many = Integer.bitCount(waiters);
        if (waiters < 0 || waiters >> home.waiters.size() != 0 || many != 2 && many != 3) {
            return -3;
        }
        List<Integer> spots = new ArrayList<>();
        for (int w : setOf(waiters)) {
            spots.add(home.waiters.get(w));
        }
        Function<List<Integer>, Boolean> bad = s -> {
            for (int r = 0; r < home.rooms; r++) {
                if (isAmiss(r, s)) {
                    return true;
                }
            }
            return false;
        };
        if (bad.apply(spots)) {
            return NONE;
        }
        return keep(seek(spots, (s, t) -> bad.apply(ringAll(s, t)) ? null : ringAll(s, t),
            s -> new TreeSet<>(s).equals(Set.of(room)), Integer.MAX_VALUE));
    }

    public int deaf(int one, int other, int tones) {
        if (noWaiter(one) || noWaiter(other) || one == other) {
            return -2;
        }
        if (tones < 0 || tones >> home.tones != 0) {
            return -3;
        }
        return keep(seek(List.of(home.waiters.get(one), home.waiters.get(other)),
            (s, t) -> List.of(home.way[s.get(0)][t], (tones >> t & 1) == 1 ? s.get(1) : home.way[s.get(1)][t]),
            s -> s.equals(List.of(home.pantry, home.pantry)), Integer.MAX_VALUE));
    }

    private BigInteger apartRows(int a, int b, int n, Map<List<Integer>, BigInteger> known) {
        if (n == 0) {
            return BigInteger.ONE;
        }
        List<Integer> key = List.of(a, b, n);
        if (!known.containsKey(key)) {
            BigInteger sum = BigInteger.ZERO;
            for (int t = 0; t < home.tones; t++) {
                if (home.way[a][t] != home.way[b][t]) {
                    sum = sum.add(apartRows(home.way[a][t], home.way[b][t], n - 1, known));
                }
            }
            known.put(key, sum);
        }
        return known.get(key);
    }

    public int apart(int one, int other, int n) {
        if (noWaiter(one) || noWaiter(other) || one == other) {
            return -2;
        }
        if (n < 0 || n > 40) {
            return -3;
        }
        return apartRows(home.waiters.get(one), home.waiters.get(other), n, new HashMap<>()).mod(PRIME).intValue();
    }

    public int aparts(int one, int other, int n) {
        int code = apart(one, other, n);
        if (code < 0) {
            return code;
        }
        Map<List<Integer>, BigInteger> known = new HashMap<>();
        int a = home.waiters.get(one);
        int b = home.waiters.get(other);
        if (apartRows(a, b, n, known).signum() == 0) {
            return NONE;
        }
        List<Integer> row = new ArrayList<>();
        for (int left = n - 1; left >= 0; left--) {
            for (int t = 0; t < home.tones; t++) {
                int nextA = home.way[a][t];
                int nextB = home.way[b][t];
                if (nextA != nextB && apartRows(nextA, nextB, left, known).signum() > 0) {
                    a = nextA;
                    b = nextB;
                    row.add(t);
                    break;
                }
            }
        }
        return keep(row);
    }

    public int round(int row, int room, int what) {
        if (noRow(row) || noRoom(room) || what < 0 || what > 1) {
            return -2;
        }
        if (rowCode(row) != 0) {
            return rowCode(row);
        }
        List<Integer> path = new ArrayList<>();
        int at = room;
        while (!path.contains(at)) {
            path.add(at);
            at = home.walk(at, rowOf(row));
        }
        return what == 0 ? path.indexOf(at) : path.size() - path.indexOf(at);
    }

    // ---- chances

    private BigInteger partsOf(int from, int to, List<Integer> row) {
        BigInteger[] now = new BigInteger[14];
        Arrays.fill(now, BigInteger.ZERO);
        now[from] = BigInteger.ONE;
        for (int tone : row) {
            BigInteger[] next = new BigInteger[14];
            Arrays.fill(next, BigInteger.ZERO);
            for (int r = 0; r < home.rooms; r++) {
                int percent = home.percent[r][tone];
                int plain = home.way[r][tone];
                next[plain] = next[plain].add(now[r].multiply(BigInteger.valueOf(100 - percent)));
                if (percent > 0) {
                    int other = home.other[r][tone];
                    next[other] = next[other].add(now[r].multiply(BigInteger.valueOf(percent)));
                }
            }
            now = next;
        }
        return now[to];
    }

    public long parts(int row, int w, int room) {
        if (noRow(row) || noWaiter(w) || noRoom(room)) {
            return -2;
        }
        if (rowCode(row) != 0) {
            return rowCode(row);
        }
        if (rows[row].length > 8) {
            return -3;
        }
        return partsOf(home.waiters.get(w), room, rowOf(row)).longValueExact();
    }

    private int allThere(List<Integer> row) {
        BigInteger value = BigInteger.valueOf(1000000000);
        for (int at : home.waiters) {
            value = value.multiply(partsOf(at, home.pantry, row)).divide(BigInteger.valueOf(100).pow(row.size()));
        }
        return value.intValueExact();
    }

    public int there(int row) {
        if (noRow(row)) {
            return -2;
        }
        if (home.rooms == 0) {
            return -5;
        }
        if (rowCode(row) != 0) {
            return rowCode(row);
        }
        return rows[row].length > 4 ? -3 : allThere(rowOf(row));
    }

    public int best(int n) {
        if (home.rooms == 0) {
            return -5;
        }
        if (n < 0 || n > 4) {
            return -3;
        }
        int greatest = -1;
        for (int many = 0; many <= n; many++) {
            for (List<Integer> row : rowsOf(many)) {
                if (allThere(row) > greatest) {
                    greatest = allThere(row);
                    found = row;
                }
            }
        }
        return greatest;
    }

    public int night(int row, int seed, int w) {
        if (noRow(row) || noWaiter(w)) {
            return -2;
        }
        if (rowCode(row) != 0) {
            return rowCode(row);
        }
        List<Integer> spots = new ArrayList<>(home.waiters);
        long x = seed & 0xffffffffL;
        for (int tone : rowOf(row)) {
            for (int i = 0; i < spots.size(); i++) {
                int at = spots.get(i);
                int to = home.way[at][tone];
                if (home.percent[at][tone] > 0) {
                    x = (1103515245L * x + 12345L) & 0xffffffffL;
                    to = (x / 65536) % 100 < home.percent[at][tone] ? home.other[at][tone] : to;
                }
                spots.set(i, to);
            }
        }
        return spots.get(w);
    }

    // ---- found, rows of numbers, images

    public int found(int i) {
        if (found == null || i < -1 || i >= found.size()) {
            return NONE;
        }
        return i == NONE ? found.size() : found.get(i);
    }

    public int numbers(int row, int sort, int n) {
        if (noRow(row) || sort < 0 || sort > 3) {
            return -2;
        }
        if (n < 0 || n > 40) {
            return -3;
        }
        rows[row] = new long[n];
        sorts[row] = sort;
        return 0;
    }

    public long write(int row, int i, long v) {
        if (noRow(row)) {
            return -2;
        }
        if (rows[row] == null) {
            return -6;
        }
        if (i < 0 || i >= rows[row].length) {
            return -7;
        }
        int cut = 64 - (8 << sorts[row]);
        rows[row][i] = v << cut >> cut;
        return rows[row][i];
    }

    public int copy(int row) {
        if (noRow(row)) {
            return -2;
        }
        if (found == null) {
            return -5;
        }
        if (rows[row] == null) {
            return -6;
        }
        if (found.size() > rows[row].length) {
            return -7;
        }
        for (int i = 0; i < found.size(); i++) {
            rows[row][i] = found.get(i);
        }
        return found.size();
    }

    // a house that was read is never changed, so an image may share it
    public int image(int i) {
        if (i < 0 || i > 1) {
            return -2;
        }
        homes[i] = home;
        founds.set(i, found);
        return 0;
    }

    public int restore(int i) {
        if (i < 0 || i > 1) {
            return -2;
        }
        if (homes[i] == null) {
            return -5;
        }
        home = homes[i];
        found = founds.get(i);
        return 0;
    }

    public int count(int what) {
        switch (what) {
            case 0:
                return home.rooms;
            case 1:
                return home.tones;
            case 2:
                return home.lines;
            case 3:
                return home.waiters.size();
            case 4:
                return home.rooms == 0 ? NONE : home.pantry;
            case 5:
                int many = 0;
                for (int[] percents : home.percent) {
                    for (int percent : percents) {
                        many += percent > 0 ? 1 : 0;
                    }
                }
                return many;
            case 6:
                return tape.size();
            default:
                return NONE;
        }
    }
}
