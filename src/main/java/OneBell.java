import java.util.Arrays;

/** A house told as a text, a bell's tones, and the rows of tones that lead through it. */
public final class OneBell {
    /** There is none. */
    public static final int NONE = -1;

    private static final int NO_SUCH = -2;
    private static final int CANNOT_BE = -3;
    private static final int FULL = -4;
    private static final int NOT_NOW = -5;
    private static final int MISSING = -6;
    private static final int NO_NUMBER = -7;
    private static final int FAULTY = -30;
    private static final int FINE = 0;

    private static final int MAX_ROOMS = 14;
    private static final int MAX_TONES = 6;
    private static final int MAX_WAITERS = 8;
    private static final int MAX_SIGNS = 10;
    private static final int MAX_TEXT = 600;
    private static final int FED_AT_ONCE = 20;
    private static final int MAX_FOUND = 500;
    private static final int ROWS = 4;
    private static final int SORTS = 4;
    private static final int MAX_NUMBERS = 40;
    private static final int IMAGES = 2;
    private static final int ALL_SETS = 1 << MAX_ROOMS;
    private static final int MAX_LOST = 30000;
    private static final int LOST_SLOTS = 1 << 16;
    private static final int PRIME = 1000000007;
    private static final int MAX_WAYS = 12;
    private static final int MAX_TURNS = 40;
    private static final int MAX_APART = 40;
    private static final int MAX_TELLING = 5;
    private static final int MAX_PARTS = 8;
    private static final int MAX_THERE = 4;
    private static final long SURE = 1000000000L;
    // far above the rows that are tried at once: 6 to the 5th are 7776
    private static final int MAX_TRIED = 10000;

    private final int[] tape = new int[MAX_TEXT];
    private int taped;
    private final Reader reader = new Reader();
    private final House told = new House();
    private final House draft = new House();
    private final Route result = new Route();
    private final Route rung = new Route();
    private final NumberRow[] rows = new NumberRow[ROWS];
    private final House[] keptHouses = new House[IMAGES];
    private final Route[] keptResults = new Route[IMAGES];
    private final Search search = new Search(ALL_SETS, ALL_SETS);
    private final Search lostSearch = new Search(MAX_LOST + 1, LOST_SLOTS);
    private final Sets sets = new Sets(told, search);
    private final Pairs pairs = new Pairs();
    private final Company company = new Company(told, search);
    private final Sight sight = new Sight(told);
    private final Chances chances = new Chances(told);

    public OneBell() {
        for (int i = 0; i < ROWS; i++) {
            rows[i] = new NumberRow();
        }
    }

    // ---- the house

    public int feed(int a, int b, int c, int d, int e) {
        if (taped + FED_AT_ONCE > MAX_TEXT) {
            return NOT_NOW;
        }
        putOnTape(a);
        putOnTape(b);
        putOnTape(c);
        putOnTape(d);
        putOnTape(e);
        return taped;
    }

    private void putOnTape(int four) {
        for (int shift = 24; shift >= 0 && taped < MAX_TEXT; shift -= 8) {
            tape[taped] = (four >>> shift) & 255;
            taped++;
        }
    }

    public int house(int n) {
        if (n < 0 || n > taped) {
            return CANNOT_BE;
        }
        taped = 0;
        int kind = reader.read(tape, n, draft);
        if (kind != 0) {
            return FAULTY - kind;
        }
        told.take(draft);
        result.forget();
        return told.lines;
    }

    public int fault(int what) {
        if (what == 0) {
            return reader.faultKind;
        }
        return what == 1 ? reader.faultPlace : NONE;
    }

    public int way(int room, int tone, int what) {
        if (!told.isRoom(room) || !told.isTone(tone)) {
            return NO_SUCH;
        }
        switch (what) {
            case 0:
                return told.plainTo(room, tone);
            case 1:
                return told.chanceTo(room, tone);
            case 2:
                return told.percent(room, tone);
            default:
                return NO_SUCH;
        }
    }

    public int room(int room, int what) {
        if (!told.isRoom(room)) {
            return NO_SUCH;
        }
        switch (what) {
            case 0:
                return told.sign(room);
            case 1:
                return (told.barred >>> room) & 1;
            case 2:
                return (told.neverForTwo >>> room) & 1;
            default:
                return NO_SUCH;
        }
    }

    public int waiter(int w) {
        return told.isWaiter(w) ? told.standsAt(w) : NO_SUCH;
    }

    public int reach(int room) {
        return told.isRoom(room) ? told.reachable(room) : NO_SUCH;
    }

    // ---- rows

    public int judge(int row) {
        if (!isRowNumber(row)) {
            return NO_SUCH;
        }
        if (told.tones == 0) {
            return NOT_NOW;
        }
        if (rows[row].isMissing()) {
            return MISSING;
        }
        return rows[row].firstBeyond(told.tones);
    }

    public int where(int row, int w, int i) {
        if (!isRowNumber(row) || !told.isWaiter(w)) {
            return NO_SUCH;
        }
        int code = takeRow(row);
        if (code != FINE) {
            return code;
        }
        if (i < 0 || i > rung.length) {
            return CANNOT_BE;
        }
        return told.behind(rung, i, told.standsAt(w));
    }

    public int meeting(int row, int what) {
        if (!isRowNumber(row) || what < 0 || what > 1) {
            return NO_SUCH;
        }
        int code = takeRow(row);
        if (code != FINE) {
            return code;
        }
        company.stand();
        for (int i = 0; i < rung.length; i++) {
            company.ring(rung.tone(i));
            int who = company.together();
            if (who != NONE) {
                return what == 0 ? i + 1 : who;
            }
        }
        return NONE;
    }

    public int amiss(int row, int what) {
        if (!isRowNumber(row) || what < 0 || what > 1) {
            return NO_SUCH;
        }
        int code = takeRow(row);
        if (code != FINE) {
            return code;
        }
        company.stand();
        for (int i = 0; i <= rung.length; i++) {
            if (i > 0) {
                company.ring(rung.tone(i - 1));
            }
            int bad = company.leastAmiss();
            if (bad != NONE) {
                return what == 0 ? i : bad;
            }
        }
        return NONE;
    }

    public int sees(int row, int w, int i) {
        int room = where(row, w, i);
        return room < 0 ? room : told.sign(room);
    }

    public int after(int row, int set) {
        if (!isRowNumber(row)) {
            return NO_SUCH;
        }
        int code = takeRow(row);
        if (code != FINE) {
            return code;
        }
        if (!told.isSet(set)) {
            return CANNOT_BE;
        }
        int left = set;
        for (int i = 0; i < rung.length; i++) {
            left = told.mayImage(left, rung.tone(i));
        }
        return left;
    }

    // ---- brought together

    public int brings(int set, int goal) {
        return bringSet(set, goal, 0);
    }

    public int clean(int set, int goal) {
        return bringSet(set, goal, told.barred);
    }

    private int bringSet(int set, int goal, int shunned) {
        if (!told.isSet(set) || (goal != NONE && !told.isSet(goal))) {
            return CANNOT_BE;
        }
        return sets.bring(set, goal, shunned, result);
    }

    public int rank() {
        return told.rooms == 0 ? NOT_NOW : sets.leastSize();
    }

    public int meet(int a, int b) {
        if (!told.isRoom(a) || !told.isRoom(b)) {
            return NO_SUCH;
        }
        pairs.measureMeetings(told);
        return pairs.steps(a, b);
    }

    public int never() {
        pairs.measureMeetings(told);
        for (int a = 0; a < told.rooms; a++) {
            for (int b = a + 1; b < told.rooms; b++) {
                if (pairs.steps(a, b) == NONE) {
                    return 100 * a + b;
                }
            }
        }
        return NONE;
    }

    public int paired(int set) {
        if (!told.isSet(set)) {
            return CANNOT_BE;
        }
        pairs.measureMeetings(told);
        rung.begin();
        int left = set;
        // each round takes one room away at least
        for (int rounds = 0; rounds < MAX_ROOMS && Integer.bitCount(left) > 1; rounds++) {
            int two = pairs.nearest(told.rooms, left);
            if (two == NONE) {
                return NONE;
            }
            int behind = rung.length;
            pairs.addSteps(told, two / MAX_ROOMS, two % MAX_ROOMS, rung);
            if (rung.length > MAX_FOUND) {
                return NONE;
            }
            for (int i = behind; i < rung.length; i++) {
                left = told.plainImage(left, rung.tone(i));
            }
        }
        result.take(rung);
        return rung.length;
    }

    public int lost(int set) {
        return told.isSet(set) ? sets.bringThoughLost(set, lostSearch, result) : CANNOT_BE;
    }

    public int spare() {
        if (told.rooms == 0) {
            return NOT_NOW;
        }
        int spared = 0;
        for (int tone = 0; tone < told.tones; tone++) {
            if (pairs.isHome(told, tone)) {
                spared |= 1 << tone;
            }
        }
        return spared;
    }

    public int mended(int what) {
        if (what < 0 || what > 2) {
            return NO_SUCH;
        }
        if (told.rooms == 0 || pairs.isHome(told, NONE)) {
            return NOT_NOW;
        }
        draft.take(told);
        for (int room = 0; room < told.rooms; room++) {
            for (int tone = 0; tone < told.tones; tone++) {
                int to = pairs.mendingRoom(draft, room, tone);
                if (to != NONE) {
                    return what == 0 ? room : what == 1 ? tone : to;
                }
            }
        }
        return NONE;
    }

    public int kernel(int row, int room) {
        if (!isRowNumber(row) || !told.isRoom(room)) {
            return NO_SUCH;
        }
        int code = takeRow(row);
        if (code != FINE) {
            return code;
        }
        int end = told.behind(rung, rung.length, room);
        int like = 0;
        for (int other = 0; other < told.rooms; other++) {
            if (told.behind(rung, rung.length, other) == end) {
                like |= 1 << other;
            }
        }
        return like;
    }

    public int ways(int n) {
        if (told.rooms == 0) {
            return NOT_NOW;
        }
        return n < 0 || n > MAX_WAYS ? CANNOT_BE : sets.rowsIntoOne(n);
    }

    // ---- seeing

    public int doubt(int row, int set, boolean now) {
        if (!isRowNumber(row)) {
            return NO_SUCH;
        }
        int code = takeRow(row);
        if (code != FINE) {
            return code;
        }
        return told.isSet(set) ? sight.inDoubt(rung, set, now) : CANNOT_BE;
    }

    public int telling(int set, boolean now) {
        return told.isSet(set) ? sight.tellBest(set, now, rung, result) : CANNOT_BE;
    }

    public int byTurns(int set) {
        return told.isSet(set) ? sets.turns(set) : CANNOT_BE;
    }

    public int alike(int a, int b) {
        if (!told.isRoom(a) || !told.isRoom(b)) {
            return NO_SUCH;
        }
        pairs.measureSigns(told);
        return pairs.steps(a, b) == NONE ? 1 : 0;
    }

    public int classes() {
        pairs.measureSigns(told);
        int unlike = 0;
        for (int room = 0; room < told.rooms; room++) {
            if (pairs.isFirstOfItsKind(room)) {
                unlike++;
            }
        }
        return unlike;
    }

    public int proof(int a, int b) {
        if (!told.isRoom(a) || !told.isRoom(b)) {
            return NO_SUCH;
        }
        pairs.measureSigns(told);
        int steps = pairs.steps(a, b);
        if (steps == NONE) {
            return NONE;
        }
        rung.begin();
        pairs.addSteps(told, a, b, rung);
        result.take(rung);
        return steps;
    }

    // ---- waiters led, kept apart

    public int leads(int waiters, int room) {
        if (!told.isRoom(room)) {
            return NO_SUCH;
        }
        int many = Integer.bitCount(waiters);
        if (waiters < 0 || waiters >= 1 << told.waiters || many < 2 || many > 3) {
            return CANNOT_BE;
        }
        return company.lead(waiters, room, result);
    }

    public int deaf(int one, int other, int tones) {
        if (!areTwoWaiters(one, other)) {
            return NO_SUCH;
        }
        if (tones < 0 || tones >= 1 << told.tones) {
            return CANNOT_BE;
        }
        return company.leadDeaf(told.standsAt(one), told.standsAt(other), tones, result);
    }

    public int apart(int one, int other, int n) {
        if (!areTwoWaiters(one, other)) {
            return NO_SUCH;
        }
        if (n < 0 || n > MAX_APART) {
            return CANNOT_BE;
        }
        return pairs.rowsApart(told, told.standsAt(one), told.standsAt(other), n);
    }

    public int aparts(int one, int other, int n) {
        if (!areTwoWaiters(one, other)) {
            return NO_SUCH;
        }
        if (n < 0 || n > MAX_APART) {
            return CANNOT_BE;
        }
        return pairs.firstApart(told, told.standsAt(one), told.standsAt(other), n, result);
    }

    private boolean areTwoWaiters(int one, int other) {
        return told.isWaiter(one) && told.isWaiter(other) && one != other;
    }

    public int round(int row, int room, int what) {
        if (!isRowNumber(row) || !told.isRoom(room) || what < 0 || what > 1) {
            return NO_SUCH;
        }
        int code = takeRow(row);
        if (code != FINE) {
            return code;
        }
        // behind as many times as there are rooms one goes round surely
        int inside = room;
        for (int i = 0; i < told.rooms; i++) {
            inside = told.behind(rung, rung.length, inside);
        }
        int turn = 1;
        int at = told.behind(rung, rung.length, inside);
        for (int i = 0; i < MAX_ROOMS && at != inside; i++) {
            at = told.behind(rung, rung.length, at);
            turn++;
        }
        return what == 1 ? turn : leadIn(room, turn);
    }

    private int leadIn(int room, int turn) {
        int ahead = room;
        for (int i = 0; i < turn; i++) {
            ahead = told.behind(rung, rung.length, ahead);
        }
        int at = room;
        int times = 0;
        for (int i = 0; i < MAX_ROOMS && at != ahead; i++) {
            at = told.behind(rung, rung.length, at);
            ahead = told.behind(rung, rung.length, ahead);
            times++;
        }
        return times;
    }

    // ---- chances

    public long parts(int row, int w, int room) {
        if (!isRowNumber(row) || !told.isWaiter(w) || !told.isRoom(room)) {
            return NO_SUCH;
        }
        int code = takeRow(row);
        if (code != FINE) {
            return code;
        }
        if (rung.length > MAX_PARTS) {
            return CANNOT_BE;
        }
        return chances.partsInto(rung, room, told.standsAt(w));
    }

    public int there(int row) {
        if (!isRowNumber(row)) {
            return NO_SUCH;
        }
        if (told.rooms == 0) {
            return NOT_NOW;
        }
        int code = takeRow(row);
        if (code != FINE) {
            return code;
        }
        return rung.length > MAX_THERE ? CANNOT_BE : chances.allThere(rung);
    }

    public int best(int n) {
        if (told.rooms == 0) {
            return NOT_NOW;
        }
        return n < 0 || n > MAX_THERE ? CANNOT_BE : chances.bringBest(n, rung, result);
    }

    public int night(int row, int seed, int w) {
        if (!isRowNumber(row) || !told.isWaiter(w)) {
            return NO_SUCH;
        }
        int code = takeRow(row);
        if (code != FINE) {
            return code;
        }
        company.stand();
        int x = seed;
        for (int i = 0; i < rung.length; i++) {
            x = company.ringByDraws(rung.tone(i), x);
        }
        return company.spot(w);
    }

    // ---- found, rows of numbers, images

    public int found(int i) {
        if (i == NONE) {
            return result.length;
        }
        return i >= 0 && i < result.length ? result.tone(i) : NONE;
    }

    public int numbers(int row, int sort, int n) {
        if (!isRowNumber(row) || sort < 0 || sort >= SORTS) {
            return NO_SUCH;
        }
        if (n < 0 || n > MAX_NUMBERS) {
            return CANNOT_BE;
        }
        rows[row].make(sort, n);
        return FINE;
    }

    public long write(int row, int i, long v) {
        if (!isRowNumber(row)) {
            return NO_SUCH;
        }
        if (rows[row].isMissing()) {
            return MISSING;
        }
        return i < 0 || i >= rows[row].size ? NO_NUMBER : rows[row].put(i, v);
    }

    public int copy(int row) {
        if (!isRowNumber(row)) {
            return NO_SUCH;
        }
        if (result.length == NONE) {
            return NOT_NOW;
        }
        if (rows[row].isMissing()) {
            return MISSING;
        }
        if (result.length > rows[row].size) {
            return NO_NUMBER;
        }
        for (int i = 0; i < result.length; i++) {
            rows[row].put(i, result.tone(i));
        }
        return result.length;
    }

    public int image(int i) {
        if (i < 0 || i >= IMAGES) {
            return NO_SUCH;
        }
        if (keptHouses[i] == null || keptResults[i] == null) {
            keptHouses[i] = new House();
            keptResults[i] = new Route();
        }
        keptHouses[i].take(told);
        keptResults[i].take(result);
        return FINE;
    }

    public int restore(int i) {
        if (i < 0 || i >= IMAGES) {
            return NO_SUCH;
        }
        if (keptHouses[i] == null || keptResults[i] == null) {
            return NOT_NOW;
        }
        told.take(keptHouses[i]);
        result.take(keptResults[i]);
        return FINE;
    }

    public int count(int what) {
        switch (what) {
            case 0:
                return told.rooms;
            case 1:
                return told.tones;
            case 2:
                return told.lines;
            case 3:
                return told.waiters;
            case 4:
                return told.rooms == 0 ? NONE : told.pantry;
            case 5:
                return told.chanceCount();
            case 6:
                return taped;
            default:
                return NONE;
        }
    }

    private boolean isRowNumber(int row) {
        return row >= 0 && row < ROWS;
    }

    /** Puts a row of numbers that is a ROW into rung, else answers by a code. */
    private int takeRow(int row) {
        if (rows[row].isMissing()) {
            return MISSING;
        }
        if (rows[row].firstBeyond(told.tones) != NONE) {
            return CANNOT_BE;
        }
        rung.begin();
        for (int i = 0; i < rows[row].size; i++) {
            rung.add(rows[row].tone(i));
        }
        return FINE;
    }

    /** The house as its text tells it. */
    private static final class House {
        int rooms;
        int tones;
        int lines;
        int pantry;
        int waiters;
        int barred;
        int neverForTwo;
        private final int[] plain = new int[MAX_ROOMS * MAX_TONES];
        private final int[] other = new int[MAX_ROOMS * MAX_TONES];
        private final int[] hundredths = new int[MAX_ROOMS * MAX_TONES];
        private final int[] signs = new int[MAX_ROOMS];
        private final int[] stands = new int[MAX_WAITERS];

        void clear() {
            rooms = 0;
            tones = 0;
            lines = 0;
            pantry = 0;
            waiters = 0;
            barred = 0;
            neverForTwo = 0;
            Arrays.fill(signs, 0);
            for (int room = 0; room < MAX_ROOMS; room++) {
                for (int tone = 0; tone < MAX_TONES; tone++) {
                    leadTo(room, tone, room);
                }
            }
        }

        void take(House from) {
            rooms = from.rooms;
            tones = from.tones;
            lines = from.lines;
            pantry = from.pantry;
            waiters = from.waiters;
            barred = from.barred;
            neverForTwo = from.neverForTwo;
            System.arraycopy(from.plain, 0, plain, 0, plain.length);
            System.arraycopy(from.other, 0, other, 0, other.length);
            System.arraycopy(from.hundredths, 0, hundredths, 0, hundredths.length);
            System.arraycopy(from.signs, 0, signs, 0, signs.length);
            System.arraycopy(from.stands, 0, stands, 0, stands.length);
        }

        boolean isRoom(int room) {
            return room >= 0 && room < rooms;
        }

        boolean isTone(int tone) {
            return tone >= 0 && tone < tones;
        }

        boolean isWaiter(int w) {
            return w >= 0 && w < waiters;
        }

        boolean isSet(int set) {
            return set > 0 && set < 1 << rooms;
        }

        int plainTo(int room, int tone) {
            return plain[room * MAX_TONES + tone];
        }

        int chanceTo(int room, int tone) {
            return other[room * MAX_TONES + tone];
        }

        int percent(int room, int tone) {
            return hundredths[room * MAX_TONES + tone];
        }

        int sign(int room) {
            return signs[room];
        }

        int standsAt(int w) {
            return stands[w];
        }

        /** A way that is told anew has no chance. */
        void leadTo(int room, int tone, int to) {
            plain[room * MAX_TONES + tone] = to;
            other[room * MAX_TONES + tone] = NONE;
            hundredths[room * MAX_TONES + tone] = 0;
        }

        void leadByChance(int room, int tone, int to, int percent) {
            other[room * MAX_TONES + tone] = to;
            hundredths[room * MAX_TONES + tone] = percent;
        }

        void showSign(int room, int sign) {
            signs[room] = sign;
        }

        void addWaiter(int room) {
            if (waiters < MAX_WAITERS) {
                stands[waiters] = room;
                waiters++;
            }
        }

        int chanceCount() {
            int many = 0;
            for (int room = 0; room < rooms; room++) {
                for (int tone = 0; tone < tones; tone++) {
                    if (percent(room, tone) > 0) {
                        many++;
                    }
                }
            }
            return many;
        }

        /** All rooms to which a tone may lead from a room, as bits. */
        int mayBits(int room, int tone) {
            int bits = 1 << plainTo(room, tone);
            return percent(room, tone) > 0 ? bits | 1 << chanceTo(room, tone) : bits;
        }

        int mayImage(int set, int tone) {
            int image = 0;
            for (int room = 0; room < rooms; room++) {
                if ((set >>> room & 1) != 0) {
                    image |= mayBits(room, tone);
                }
            }
            return image;
        }

        int plainImage(int set, int tone) {
            int image = 0;
            for (int room = 0; room < rooms; room++) {
                if ((set >>> room & 1) != 0) {
                    image |= 1 << plainTo(room, tone);
                }
            }
            return image;
        }

        int reachable(int room) {
            int reached = 1 << room;
            for (int times = 0; times < rooms; times++) {
                for (int tone = 0; tone < tones; tone++) {
                    reached |= mayImage(reached, tone);
                }
            }
            return reached;
        }

        /** Where one is behind the first tones of a route. */
        int behind(Route route, int tonesRung, int room) {
            int at = room;
            for (int i = 0; i < tonesRung; i++) {
                at = plainTo(at, route.tone(i));
            }
            return at;
        }
    }

    /** Reads the text of a house token by token, up to its first fault. */
    private static final class Reader {
        private static final int END = 0;
        private static final int WORD = 1;
        private static final int NUMBER = 2;
        private static final int STOP = 3;
        private static final int BAD = 4;

        private static final int ROOMS_LINE = 0;
        private static final int TONES_LINE = 1;
        private static final int LEAD_LINE = 2;
        private static final int CHANCE_LINE = 3;
        private static final int STUCK_LINE = 4;
        private static final int BAR_LINE = 5;
        private static final int TWO_LINE = 6;
        private static final int SIGN_LINE = 7;
        private static final int PANTRY_LINE = 8;
        private static final int WAITER_LINE = 9;

        private static final int NO_TOKEN = 1;
        private static final int MISPLACED = 2;
        private static final int OUT_OF_BOUNDS = 3;
        private static final int TOO_MANY = 4;

        int faultKind;
        int faultPlace = NONE;
        private int[] text;
        private int length;
        private int token;
        private int start;
        private int end;

        /** The kind of the first fault, 0 without. */
        int read(int[] bytes, int n, House into) {
            faultKind = 0;
            faultPlace = NONE;
            text = bytes;
            length = Math.max(0, Math.min(n, bytes.length));
            end = 0;
            into.clear();
            next();
            // each line has two tokens at least, so there are fewer lines than bytes
            for (int i = 0; i <= length && faultKind == 0 && token != END; i++) {
                readLine(into);
                next();
            }
            if (faultKind == 0 && into.rooms > 0 && into.tones == 0) {
                fail(MISPLACED, length);
            }
            return faultKind;
        }

        private void fail(int kind, int place) {
            if (faultKind == 0) {
                faultKind = kind;
                faultPlace = place;
            }
        }

        private void next() {
            int at = end;
            while (at < length && (text[at] == 10 || text[at] == 32)) {
                at++;
            }
            start = at;
            if (at >= length) {
                token = END;
            } else if (isLetter(at)) {
                token = WORD;
                while (at < length && isLetter(at)) {
                    at++;
                }
            } else if (isDigit(at)) {
                while (at < length && isDigit(at)) {
                    at++;
                }
                token = at - start > 3 ? BAD : NUMBER;
            } else {
                token = text[at] == ';' ? STOP : BAD;
                at++;
            }
            end = at;
        }

        private boolean isLetter(int at) {
            return text[at] >= 'a' && text[at] <= 'z';
        }

        private boolean isDigit(int at) {
            return text[at] >= '0' && text[at] <= '9';
        }

        private boolean stands(int wanted) {
            if (token == BAD) {
                fail(NO_TOKEN, start);
            } else if (token != wanted) {
                fail(MISPLACED, start);
            }
            return faultKind == 0;
        }

        private void readLine(House into) {
            if (!stands(WORD)) {
                return;
            }
            int line = lineKind();
            int kind = lineFault(line, into);
            if (kind != 0) {
                fail(kind, start);
                return;
            }
            readNumbers(line, into);
            if (faultKind == 0) {
                next();
                if (stands(STOP)) {
                    into.lines++;
                }
            }
        }

        private int lineFault(int line, House into) {
            if (line == NONE) {
                return MISPLACED;
            }
            if (line == ROOMS_LINE) {
                return into.rooms > 0 ? TOO_MANY : 0;
            }
            if (line == TONES_LINE && into.rooms > 0) {
                return into.tones > 0 ? TOO_MANY : 0;
            }
            if (into.rooms == 0 || into.tones == 0) {
                return MISPLACED;
            }
            return line == WAITER_LINE && into.waiters >= MAX_WAITERS ? TOO_MANY : 0;
        }

        private int lineKind() {
            if (spells("rooms")) {
                return ROOMS_LINE;
            }
            if (spells("tones")) {
                return TONES_LINE;
            }
            if (spells("lead")) {
                return LEAD_LINE;
            }
            if (spells("chance")) {
                return CHANCE_LINE;
            }
            if (spells("stuck")) {
                return STUCK_LINE;
            }
            if (spells("bar")) {
                return BAR_LINE;
            }
            if (spells("two")) {
                return TWO_LINE;
            }
            if (spells("sign")) {
                return SIGN_LINE;
            }
            if (spells("pantry")) {
                return PANTRY_LINE;
            }
            return spells("waiter") ? WAITER_LINE : NONE;
        }

        private boolean spells(String word) {
            if (end - start != word.length()) {
                return false;
            }
            for (int i = 0; i < word.length(); i++) {
                if (text[start + i] != word.charAt(i)) {
                    return false;
                }
            }
            return true;
        }

        private void readNumbers(int line, House into) {
            switch (line) {
                case ROOMS_LINE:
                    into.rooms = Math.max(0, number(2, MAX_ROOMS));
                    break;
                case TONES_LINE:
                    into.tones = Math.max(0, number(1, MAX_TONES));
                    break;
                case LEAD_LINE:
                    readLead(into);
                    break;
                case CHANCE_LINE:
                    readChance(into);
                    break;
                case STUCK_LINE:
                    readStuck(into);
                    break;
                case SIGN_LINE:
                    readSign(into);
                    break;
                default:
                    readRoom(line, into);
                    break;
            }
        }

        /** The next token's number; NONE with a fault. */
        private int number(int least, int most) {
            if (faultKind != 0) {
                return NONE;
            }
            next();
            if (!stands(NUMBER)) {
                return NONE;
            }
            int value = 0;
            for (int i = start; i < end; i++) {
                value = value * 10 + text[i] - '0';
            }
            if (value < least || value > most) {
                fail(OUT_OF_BOUNDS, start);
                return NONE;
            }
            return value;
        }

        private void readLead(House into) {
            int room = number(0, into.rooms - 1);
            for (int tone = 0; tone < into.tones; tone++) {
                int to = number(0, into.rooms - 1);
                if (faultKind == 0) {
                    into.leadTo(room, tone, to);
                }
            }
        }

        private void readChance(House into) {
            int room = number(0, into.rooms - 1);
            int tone = number(0, into.tones - 1);
            int to = number(0, into.rooms - 1);
            if (faultKind == 0 && into.plainTo(room, tone) == to) {
                fail(OUT_OF_BOUNDS, start);
            }
            int percent = number(1, 99);
            if (faultKind == 0) {
                into.leadByChance(room, tone, to, percent);
            }
        }

        private void readStuck(House into) {
            int room = number(0, into.rooms - 1);
            int tone = number(0, into.tones - 1);
            if (faultKind == 0) {
                into.leadTo(room, tone, room);
            }
        }

        private void readSign(House into) {
            int room = number(0, into.rooms - 1);
            int sign = number(0, MAX_SIGNS - 1);
            if (faultKind == 0) {
                into.showSign(room, sign);
            }
        }

        private void readRoom(int line, House into) {
            int room = number(0, into.rooms - 1);
            if (faultKind != 0) {
                return;
            }
            if (line == BAR_LINE) {
                into.barred |= 1 << room;
            } else if (line == TWO_LINE) {
                into.neverForTwo |= 1 << room;
            } else if (line == PANTRY_LINE) {
                into.pantry = room;
            } else {
                into.addWaiter(room);
            }
        }
    }

    /** A row of tones that the program found or tries; its length may go beyond what it holds. */
    private static final class Route {
        int length = NONE;
        private final int[] tones = new int[MAX_FOUND];

        void forget() {
            length = NONE;
        }

        void begin() {
            length = 0;
        }

        void add(int tone) {
            if (length >= 0 && length < MAX_FOUND) {
                tones[length] = tone;
            }
            length++;
        }

        int tone(int i) {
            return i >= 0 && i < MAX_FOUND ? tones[i] : 0;
        }

        void put(int i, int tone) {
            if (i >= 0 && i < MAX_FOUND) {
                tones[i] = tone;
            }
        }

        void take(Route from) {
            if (from.length <= MAX_FOUND) {
                length = from.length;
                System.arraycopy(from.tones, 0, tones, 0, Math.max(0, length));
            }
        }

        /** The first row of so many tones. */
        void beginFirst(int many) {
            begin();
            for (int i = 0; i < many && i < MAX_FOUND; i++) {
                add(0);
            }
        }

        /** The next row as long: the first place where it is another one; NONE behind the last row. */
        int advance(int toneCount) {
            for (int i = length - 1; i >= 0; i--) {
                if (tones[i] + 1 < toneCount) {
                    tones[i]++;
                    return i;
                }
                tones[i] = 0;
            }
            return NONE;
        }
    }

    /** Numbers of one sort. */
    private static final class NumberRow {
        int size = NONE;
        private int sort;
        private final long[] values = new long[MAX_NUMBERS];

        boolean isMissing() {
            return size == NONE;
        }

        void make(int newSort, int n) {
            sort = newSort;
            size = n;
            Arrays.fill(values, 0L);
        }

        long put(int i, long v) {
            values[i] = cut(v);
            return values[i];
        }

        private long cut(long v) {
            switch (sort) {
                case 0:
                    return (byte) v;
                case 1:
                    return (short) v;
                case 2:
                    return (int) v;
                default:
                    return v;
            }
        }

        int tone(int i) {
            return (int) values[i];
        }

        /** The first place of no tone, NONE without. */
        int firstBeyond(int tones) {
            for (int i = 0; i < size; i++) {
                if (values[i] < 0 || values[i] >= tones) {
                    return i;
                }
            }
            return NONE;
        }
    }

    /** What came about in a search, each but once, in order of rows, and how it did. */
    private static final class Search {
        private static final int MAX_BASE = 1000000000;
        private static final int STREW = 0x9E3779B1;

        private final int capacity;
        private final int mask;
        private int[] slots;
        private int[] states;
        private int[] from;
        private int base;
        private int many;

        /** So many slots must be a power of two. */
        Search(int capacity, int slotCount) {
            this.capacity = capacity;
            this.mask = slotCount - 1;
        }

        /** What earlier searches left in the slots is not above the base, so it need not be wiped. */
        void begin() {
            if (slots == null || states == null || from == null) {
                slots = new int[mask + 1];
                states = new int[capacity];
                from = new int[capacity];
            }
            base += many;
            many = 0;
            if (base > MAX_BASE) {
                Arrays.fill(slots, 0);
                base = 0;
            }
        }

        int size() {
            return many;
        }

        int state(int i) {
            return states[i];
        }

        /** The slot where a state is, or where it would be; NONE: no slot is left. */
        private int slotOf(int state) {
            // states of 14 bits have a slot of their own, others are strewn
            int slot = (state < ALL_SETS ? state : state * STREW >>> 16) & mask;
            for (int tries = 0; tries <= mask; tries++) {
                int entry = slots[slot] - base;
                if (entry <= 0 || states[entry - 1] == state) {
                    return slot;
                }
                slot = (slot + 1) & mask;
            }
            return NONE;
        }

        int placeOf(int state) {
            int slot = slotOf(state);
            return slot == NONE || slots[slot] <= base ? NONE : slots[slot] - base - 1;
        }

        /** Whether the state is new. */
        boolean add(int state, int parent, int tone) {
            int slot = slotOf(state);
            if (slot == NONE || slots[slot] > base || many >= capacity) {
                return false;
            }
            states[many] = state;
            from[many] = parent == NONE ? NONE : parent * 8 + tone;
            many++;
            slots[slot] = base + many;
            return true;
        }

        /** Puts the row to the last state into a route, if it is not too long: its length. */
        int traceLast(Route into) {
            int length = 0;
            for (int at = many - 1; length < capacity && at >= 0 && from[at] >= 0; at = from[at] >> 3) {
                length++;
            }
            if (length > MAX_FOUND) {
                return length;
            }
            into.beginFirst(length);
            int at = many - 1;
            for (int i = length - 1; i >= 0; i--) {
                into.put(i, from[at] & 7);
                at = from[at] >> 3;
            }
            return length;
        }
    }

    /** What is sought by sets of rooms. */
    private static final class Sets {
        private static final int HALF = 7;
        private static final int HALF_SETS = 1 << HALF;

        private final House house;
        private final Search search;
        // by tone, then by the lower or the higher half of a set: where it leads
        private final int[] images = new int[MAX_TONES * 2 * HALF_SETS];
        // the rooms of each sign that there is
        private final int[] bySign = new int[MAX_SIGNS];
        private int signCount;
        private int openCount;
        private int[] values;
        private int[] nextValues;

        Sets(House house, Search search) {
            this.house = house;
            this.search = search;
        }

        private void prepare(boolean may) {
            for (int tone = 0; tone < house.tones; tone++) {
                for (int room = 0; room < MAX_ROOMS; room++) {
                    int to = 0;
                    if (room < house.rooms) {
                        to = may ? house.mayBits(room, tone) : 1 << house.plainTo(room, tone);
                    }
                    int offset = (tone * 2 + room / HALF) * HALF_SETS;
                    int bit = 1 << room % HALF;
                    for (int set = 0; set < bit; set++) {
                        images[offset + bit + set] = images[offset + set] | to;
                    }
                }
            }
        }

        private int imageOf(int set, int tone) {
            int offset = tone * 2 * HALF_SETS;
            return images[offset + (set & HALF_SETS - 1)]
                | images[offset + HALF_SETS + (set >>> HALF & HALF_SETS - 1)];
        }

        private boolean isThere(int set, int goal) {
            return goal == NONE ? Integer.bitCount(set) == 1 : (set & ~goal) == 0;
        }

        int bring(int set, int goal, int shunned, Route into) {
            prepare(true);
            search.begin();
            search.add(set, NONE, 0);
            if (isThere(set, goal)) {
                return search.traceLast(into);
            }
            for (int head = 0; head < ALL_SETS && head < search.size(); head++) {
                for (int tone = 0; tone < house.tones; tone++) {
                    int next = imageOf(search.state(head), tone);
                    if ((next & shunned) == 0 && search.add(next, head, tone) && isThere(next, goal)) {
                        return search.traceLast(into);
                    }
                }
            }
            return NONE;
        }

        /** A state: the set if no tone was lost, above it the set if one was. */
        int bringThoughLost(int set, Search lost, Route into) {
            int goal = 1 << house.pantry;
            prepare(true);
            lost.begin();
            lost.add(set, NONE, 0);
            if (set == goal) {
                return lost.traceLast(into);
            }
            for (int head = 0; head <= MAX_LOST && head < lost.size(); head++) {
                int whole = lost.state(head) & ALL_SETS - 1;
                int lacking = lost.state(head) >>> MAX_ROOMS;
                for (int tone = 0; tone < house.tones; tone++) {
                    int nextWhole = imageOf(whole, tone);
                    int nextLacking = imageOf(lacking, tone) | whole;
                    if (lost.add(nextWhole | nextLacking << MAX_ROOMS, head, tone)) {
                        if ((nextWhole | nextLacking) == goal) {
                            return lost.traceLast(into);
                        }
                        if (lost.size() > MAX_LOST) {
                            return FULL;
                        }
                    }
                }
            }
            return NONE;
        }

        /** All sets that come about from all rooms. */
        private void spread() {
            prepare(true);
            search.begin();
            search.add((1 << house.rooms) - 1, NONE, 0);
            for (int head = 0; head < ALL_SETS && head < search.size(); head++) {
                for (int tone = 0; tone < house.tones; tone++) {
                    search.add(imageOf(search.state(head), tone), head, tone);
                }
            }
        }

        int leastSize() {
            spread();
            int least = MAX_ROOMS;
            for (int i = 0; i < search.size(); i++) {
                least = Math.min(least, Integer.bitCount(search.state(i)));
            }
            return least;
        }

        private void makeValues() {
            if (values == null || nextValues == null) {
                values = new int[ALL_SETS];
                nextValues = new int[ALL_SETS];
            }
        }

        /** How many rows of n tones bring all rooms into one. */
        int rowsIntoOne(int n) {
            spread();
            makeValues();
            Arrays.fill(values, 0);
            values[0] = 1;
            for (int i = 0; i < n; i++) {
                countOneToneMore();
            }
            int sum = 0;
            for (int i = 0; i < search.size(); i++) {
                if (Integer.bitCount(search.state(i)) == 1) {
                    sum = (sum + values[i]) % PRIME;
                }
            }
            return sum;
        }

        private void countOneToneMore() {
            Arrays.fill(nextValues, 0);
            for (int i = 0; i < search.size(); i++) {
                for (int tone = 0; tone < house.tones && values[i] != 0; tone++) {
                    int to = search.placeOf(imageOf(search.state(i), tone));
                    if (to != NONE) {
                        nextValues[to] = (nextValues[to] + values[i]) % PRIME;
                    }
                }
            }
            System.arraycopy(nextValues, 0, values, 0, search.size());
        }

        /** The least number of tones, chosen by what is seen, by which one knows where he is. */
        int turns(int set) {
            prepare(false);
            findSigns();
            search.begin();
            addUnsure(set, NONE, 0);
            int starts = search.size();
            for (int head = 0; head < ALL_SETS && head < search.size(); head++) {
                for (int tone = 0; tone < house.tones; tone++) {
                    addUnsure(imageOf(search.state(head), tone), head, tone);
                }
            }
            openTurns();
            int needed = starts == 0 ? 0 : NONE;
            for (int most = 1; most <= MAX_TURNS && needed == NONE; most++) {
                if (!settle(most)) {
                    return NONE;
                }
                needed = isSettled(starts) ? most : NONE;
            }
            return needed;
        }

        /** By set its turns, as far as they are settled; all sets that are still open in a row. */
        private void openTurns() {
            makeValues();
            Arrays.fill(values, NONE);
            values[0] = 0;
            for (int room = 0; room < MAX_ROOMS; room++) {
                values[1 << room] = 0;
            }
            openCount = search.size();
            for (int i = 0; i < openCount; i++) {
                nextValues[i] = search.state(i);
            }
        }

        private void findSigns() {
            signCount = 0;
            for (int sign = 0; sign < MAX_SIGNS; sign++) {
                int like = 0;
                for (int room = 0; room < house.rooms; room++) {
                    like |= house.sign(room) == sign ? 1 << room : 0;
                }
                if (like != 0) {
                    bySign[signCount] = like;
                    signCount++;
                }
            }
        }

        /** Adds those parts of a set, as signs narrow it, in which one doesn't know where he is. */
        private void addUnsure(int set, int parent, int tone) {
            for (int i = 0; i < signCount; i++) {
                int part = set & bySign[i];
                if (Integer.bitCount(part) > 1) {
                    search.add(part, parent, tone);
                }
            }
        }

        /** Finds the sets for which so many tones are enough and no fewer: whether there are any. */
        private boolean settle(int most) {
            int left = 0;
            for (int i = 0; i < openCount; i++) {
                int set = nextValues[i];
                for (int tone = 0; tone < house.tones && values[set] == NONE; tone++) {
                    if (isKnownWithin(imageOf(set, tone), most)) {
                        values[set] = most;
                    }
                }
                if (values[set] == NONE) {
                    nextValues[left] = set;
                    left++;
                }
            }
            boolean any = left < openCount;
            openCount = left;
            return any;
        }

        /** Whether fewer tones are enough behind this one, whatever sign is seen. */
        private boolean isKnownWithin(int set, int most) {
            for (int i = 0; i < signCount; i++) {
                int turns = values[set & bySign[i]];
                if (turns == NONE || turns >= most) {
                    return false;
                }
            }
            return true;
        }

        private boolean isSettled(int starts) {
            for (int i = 0; i < starts; i++) {
                if (values[search.state(i)] == NONE) {
                    return false;
                }
            }
            return true;
        }
    }

    /** What is known of two rooms at once, by plain ways. */
    private static final class Pairs {
        private static final int ALL = MAX_ROOMS * MAX_ROOMS;

        // how many tones two rooms need at least, NONE if none do
        private final int[] needed = new int[ALL];
        private final int[] homeWith = new int[MAX_ROOMS];
        private final int[] tally = new int[ALL];
        private final int[] nextTally = new int[ALL];
        // by the numbers of tones, as bits
        private final long[] apartFor = new long[ALL];

        private int at(int a, int b) {
            return a * MAX_ROOMS + b;
        }

        int steps(int a, int b) {
            return needed[at(a, b)];
        }

        void measureMeetings(House house) {
            Arrays.fill(needed, NONE);
            for (int room = 0; room < house.rooms; room++) {
                needed[at(room, room)] = 0;
            }
            measureOthers(house);
        }

        void measureSigns(House house) {
            Arrays.fill(needed, NONE);
            for (int a = 0; a < house.rooms; a++) {
                for (int b = 0; b < house.rooms; b++) {
                    if (house.sign(a) != house.sign(b)) {
                        needed[at(a, b)] = 0;
                    }
                }
            }
            measureOthers(house);
        }

        private void measureOthers(House house) {
            boolean more = true;
            for (int steps = 1; steps <= ALL && more; steps++) {
                more = measureStep(house, steps);
            }
        }

        private boolean measureStep(House house, int steps) {
            boolean any = false;
            for (int a = 0; a < house.rooms; a++) {
                for (int b = a + 1; b < house.rooms; b++) {
                    if (needed[at(a, b)] == NONE && toneTowards(house, a, b, steps - 1) != NONE) {
                        needed[at(a, b)] = steps;
                        needed[at(b, a)] = steps;
                        any = true;
                    }
                }
            }
            return any;
        }

        /** The first tone by which two rooms lead to two that need so many. */
        private int toneTowards(House house, int a, int b, int steps) {
            for (int tone = 0; tone < house.tones; tone++) {
                if (needed[at(house.plainTo(a, tone), house.plainTo(b, tone))] == steps) {
                    return tone;
                }
            }
            return NONE;
        }

        /** Adds the first of the shortest rows for two rooms. */
        void addSteps(House house, int a, int b, Route into) {
            int one = a;
            int other = b;
            for (int left = steps(a, b); left > 0; left--) {
                int tone = toneTowards(house, one, other, left - 1);
                if (tone == NONE) {
                    return;
                }
                into.add(tone);
                one = house.plainTo(one, tone);
                other = house.plainTo(other, tone);
            }
        }

        /** The first two rooms of a set that need the fewest tones; NONE: no two do with any. */
        int nearest(int rooms, int set) {
            int best = NONE;
            for (int a = 0; a < rooms; a++) {
                for (int b = a + 1; b < rooms; b++) {
                    boolean both = (set >>> a & set >>> b & 1) != 0;
                    if (both && steps(a, b) != NONE && (best == NONE || steps(a, b) < needed[best])) {
                        best = at(a, b);
                    }
                }
            }
            return best;
        }

        boolean isFirstOfItsKind(int room) {
            for (int other = 0; other < room; other++) {
                if (steps(other, room) == NONE) {
                    return false;
                }
            }
            return true;
        }

        /**
         * Whether all rooms can be brought into the pantry: just if any two of them can,
         * as those that are together stay together.
         */
        boolean isHome(House house, int withoutTone) {
            Arrays.fill(homeWith, 0);
            homeWith[house.pantry] = 1 << house.pantry;
            boolean more = true;
            for (int i = 0; i <= ALL && more; i++) {
                more = false;
                for (int a = 0; a < house.rooms; a++) {
                    more |= growHome(house, a, withoutTone);
                }
            }
            for (int a = 0; a < house.rooms; a++) {
                if (homeWith[a] != (1 << house.rooms) - 1) {
                    return false;
                }
            }
            return true;
        }

        private boolean growHome(House house, int a, int withoutTone) {
            boolean any = false;
            int wanted = (2 << a) - 1;
            for (int tone = 0; tone < house.tones && (homeWith[a] & wanted) != wanted; tone++) {
                int partners = tone == withoutTone ? 0 : homeWith[house.plainTo(a, tone)];
                for (int b = 0; b <= a && partners != 0; b++) {
                    boolean known = (homeWith[a] >>> b & 1) != 0;
                    if (!known && (partners >>> house.plainTo(b, tone) & 1) != 0) {
                        homeWith[a] |= 1 << b;
                        homeWith[b] |= 1 << a;
                        any = true;
                    }
                }
            }
            return any;
        }

        /** The first other room by which the house were home, if a tone led there from a room. */
        int mendingRoom(House house, int room, int tone) {
            int old = house.plainTo(room, tone);
            for (int to = 0; to < house.rooms; to++) {
                if (to != old) {
                    house.leadTo(room, tone, to);
                    if (isHome(house, NONE)) {
                        return to;
                    }
                }
            }
            house.leadTo(room, tone, old);
            return NONE;
        }

        int rowsApart(House house, int a, int b, int n) {
            Arrays.fill(tally, 0);
            tally[at(a, b)] = 1;
            for (int i = 0; i < n; i++) {
                countOneToneMore(house);
            }
            int sum = 0;
            for (int i = 0; i < ALL; i++) {
                sum = (sum + tally[i]) % PRIME;
            }
            return sum;
        }

        private void countOneToneMore(House house) {
            Arrays.fill(nextTally, 0);
            for (int a = 0; a < house.rooms; a++) {
                for (int b = 0; b < house.rooms; b++) {
                    int rows = tally[at(a, b)];
                    for (int tone = 0; tone < house.tones && rows != 0; tone++) {
                        int nextA = house.plainTo(a, tone);
                        int nextB = house.plainTo(b, tone);
                        if (nextA != nextB) {
                            nextTally[at(nextA, nextB)] = (nextTally[at(nextA, nextB)] + rows) % PRIME;
                        }
                    }
                }
            }
            System.arraycopy(nextTally, 0, tally, 0, ALL);
        }

        /** The first row of n tones that keeps two apart: n; NONE without. */
        int firstApart(House house, int a, int b, int n, Route into) {
            Arrays.fill(apartFor, 1L);
            for (int tones = 1; tones <= n; tones++) {
                measureApart(house, tones);
            }
            if ((apartFor[at(a, b)] >>> n & 1L) == 0L) {
                return NONE;
            }
            into.begin();
            int one = a;
            int other = b;
            for (int left = n; left > 0; left--) {
                int tone = toneApart(house, one, other, left - 1);
                if (tone == NONE) {
                    return NONE;
                }
                into.add(tone);
                one = house.plainTo(one, tone);
                other = house.plainTo(other, tone);
            }
            return n;
        }

        private void measureApart(House house, int tones) {
            for (int a = 0; a < house.rooms; a++) {
                for (int b = 0; b < house.rooms; b++) {
                    if (toneApart(house, a, b, tones - 1) != NONE) {
                        apartFor[at(a, b)] |= 1L << tones;
                    }
                }
            }
        }

        /** The first tone behind which two are apart and can be for so many more. */
        private int toneApart(House house, int a, int b, int left) {
            for (int tone = 0; tone < house.tones; tone++) {
                int nextA = house.plainTo(a, tone);
                int nextB = house.plainTo(b, tone);
                if (nextA != nextB && (apartFor[at(nextA, nextB)] >>> left & 1L) != 0L) {
                    return tone;
                }
            }
            return NONE;
        }
    }

    /** The waiters as they go together. */
    private static final class Company {
        private static final int MOST_LED = 3;
        private static final int ALL_LED = MAX_ROOMS * MAX_ROOMS * MAX_ROOMS;

        private final House house;
        private final Search search;
        private final int[] spots = new int[MAX_WAITERS];
        private final int[] led = new int[MOST_LED];
        private int ledCount;

        Company(House house, Search search) {
            this.house = house;
            this.search = search;
        }

        void stand() {
            for (int w = 0; w < house.waiters; w++) {
                spots[w] = house.standsAt(w);
            }
        }

        int spot(int w) {
            return spots[w];
        }

        void ring(int tone) {
            for (int w = 0; w < house.waiters; w++) {
                spots[w] = house.plainTo(spots[w], tone);
            }
        }

        /** The number that is drawn from behind the last draw. */
        int ringByDraws(int tone, int seed) {
            int x = seed;
            for (int w = 0; w < house.waiters; w++) {
                int percent = house.percent(spots[w], tone);
                boolean byChance = false;
                if (percent > 0) {
                    x = 1103515245 * x + 12345;
                    byChance = (x >>> 16) % 100 < percent;
                }
                spots[w] = byChance ? house.chanceTo(spots[w], tone) : house.plainTo(spots[w], tone);
            }
            return x;
        }

        /** The least two that are in one room. */
        int together() {
            for (int one = 0; one < house.waiters; one++) {
                for (int other = one + 1; other < house.waiters; other++) {
                    if (spots[one] == spots[other]) {
                        return 10 * one + other;
                    }
                }
            }
            return NONE;
        }

        /** The rooms, as bits, in which one of so many is amiss among these. */
        private int amissBits(int[] at, int many) {
            int once = 0;
            int twice = 0;
            for (int i = 0; i < many && i < at.length; i++) {
                twice |= once & 1 << at[i];
                once |= 1 << at[i];
            }
            return once & house.barred | twice & house.neverForTwo;
        }

        int leastAmiss() {
            int bad = amissBits(spots, house.waiters);
            for (int room = 0; room < house.rooms; room++) {
                if ((bad >>> room & 1) != 0) {
                    return room;
                }
            }
            return NONE;
        }

        /** Leads two or three waiters into a room. */
        int lead(int bits, int room, Route into) {
            gather(bits);
            if (isLedAmiss()) {
                return NONE;
            }
            search.begin();
            search.add(packLed(), NONE, 0);
            if (areLedAt(room)) {
                return search.traceLast(into);
            }
            for (int head = 0; head < ALL_LED && head < search.size(); head++) {
                for (int tone = 0; tone < house.tones; tone++) {
                    ringForLed(search.state(head), tone);
                    if (!isLedAmiss() && search.add(packLed(), head, tone) && areLedAt(room)) {
                        return search.traceLast(into);
                    }
                }
            }
            return NONE;
        }

        private void gather(int bits) {
            ledCount = 0;
            for (int w = 0; w < house.waiters; w++) {
                if ((bits >>> w & 1) != 0 && ledCount < MOST_LED) {
                    led[ledCount] = house.standsAt(w);
                    ledCount++;
                }
            }
        }

        private int packLed() {
            int packed = 0;
            for (int i = ledCount - 1; i >= 0; i--) {
                packed = packed * MAX_ROOMS + led[i];
            }
            return packed;
        }

        private void ringForLed(int packed, int tone) {
            int rest = packed;
            for (int i = 0; i < ledCount; i++) {
                led[i] = house.plainTo(rest % MAX_ROOMS, tone);
                rest /= MAX_ROOMS;
            }
        }

        private boolean isLedAmiss() {
            return amissBits(led, ledCount) != 0;
        }

        private boolean areLedAt(int room) {
            for (int i = 0; i < ledCount; i++) {
                if (led[i] != room) {
                    return false;
                }
            }
            return true;
        }

        /** Leads two into the pantry of whom the second doesn't hear some tones. */
        int leadDeaf(int one, int other, int unheard, Route into) {
            int goal = house.pantry * MAX_ROOMS + house.pantry;
            search.begin();
            search.add(one * MAX_ROOMS + other, NONE, 0);
            if (one * MAX_ROOMS + other == goal) {
                return search.traceLast(into);
            }
            for (int head = 0; head < MAX_ROOMS * MAX_ROOMS && head < search.size(); head++) {
                int a = search.state(head) / MAX_ROOMS;
                int b = search.state(head) % MAX_ROOMS;
                for (int tone = 0; tone < house.tones; tone++) {
                    int nextB = (unheard >>> tone & 1) != 0 ? b : house.plainTo(b, tone);
                    int next = house.plainTo(a, tone) * MAX_ROOMS + nextB;
                    if (search.add(next, head, tone) && next == goal) {
                        return search.traceLast(into);
                    }
                }
            }
            return NONE;
        }
    }

    /** What is told of a waiter's room by the signs that are seen. */
    private static final class Sight {
        private final House house;
        // by the number of tones rung, then by the room in which he was
        private final int[] spots = new int[(MAX_TELLING + 1) * MAX_ROOMS];
        private final int[] untold = new int[(MAX_TELLING + 1) * MAX_ROOMS];
        private final int[] bySign = new int[MAX_SIGNS];
        private final int[] bySpot = new int[MAX_ROOMS];

        Sight(House house) {
            this.house = house;
        }

        int inDoubt(Route row, int set, boolean now) {
            stand(set);
            for (int i = 0; i < row.length; i++) {
                ring(0, 0, row.tone(i));
            }
            return countDoubts(0, set, now);
        }

        private void stand(int set) {
            for (int room = 0; room < house.rooms; room++) {
                spots[room] = room;
                untold[room] = set;
            }
            narrow(0);
        }

        private void ring(int before, int behind, int tone) {
            for (int room = 0; room < house.rooms; room++) {
                spots[behind * MAX_ROOMS + room] = house.plainTo(spots[before * MAX_ROOMS + room], tone);
                untold[behind * MAX_ROOMS + room] = untold[before * MAX_ROOMS + room];
            }
            narrow(behind);
        }

        private void narrow(int level) {
            Arrays.fill(bySign, 0);
            for (int room = 0; room < house.rooms; room++) {
                bySign[house.sign(spots[level * MAX_ROOMS + room])] |= 1 << room;
            }
            for (int room = 0; room < house.rooms; room++) {
                untold[level * MAX_ROOMS + room] &= bySign[house.sign(spots[level * MAX_ROOMS + room])];
            }
        }

        private int countDoubts(int level, int set, boolean now) {
            Arrays.fill(bySpot, 0);
            for (int room = 0; room < house.rooms && now; room++) {
                bySpot[spots[level * MAX_ROOMS + room]] |= 1 << room;
            }
            int doubts = 0;
            for (int room = 0; room < house.rooms; room++) {
                int others = untold[level * MAX_ROOMS + room] & ~(1 << room);
                others &= ~bySpot[spots[level * MAX_ROOMS + room]];
                if ((set >>> room & 1) != 0 && others != 0) {
                    doubts++;
                }
            }
            return doubts;
        }

        /** Finds the best telling row: how many are in doubt. */
        int tellBest(int set, boolean now, Route trial, Route into) {
            stand(set);
            int fewest = MAX_ROOMS + 1;
            for (int length = 0; length <= MAX_TELLING && fewest > 0; length++) {
                trial.beginFirst(length);
                int changed = 0;
                for (int tried = 0; tried < MAX_TRIED && changed != NONE && fewest > 0; tried++) {
                    for (int i = changed; i < length; i++) {
                        ring(i, i + 1, trial.tone(i));
                    }
                    int doubts = countDoubts(length, set, now);
                    if (doubts < fewest) {
                        fewest = doubts;
                        into.take(trial);
                    }
                    changed = trial.advance(house.tones);
                }
            }
            return fewest;
        }
    }

    /** The chances of being in a room. */
    private static final class Chances {
        private final House house;
        // by the room from which one goes: the parts that come into the told room
        private final long[] parts = new long[MAX_ROOMS];
        private final long[] nextParts = new long[MAX_ROOMS];

        Chances(House house) {
            this.house = house;
        }

        long partsInto(Route row, int room, int from) {
            goBack(row, room);
            return parts[from];
        }

        /** From the row's end to its beginning, so that all waiters' parts come at once. */
        private void goBack(Route row, int room) {
            Arrays.fill(parts, 0L);
            parts[room] = 1L;
            for (int i = row.length - 1; i >= 0; i--) {
                int tone = row.tone(i);
                for (int at = 0; at < house.rooms; at++) {
                    int percent = house.percent(at, tone);
                    nextParts[at] = parts[house.plainTo(at, tone)] * (100 - percent);
                    if (percent > 0) {
                        nextParts[at] += parts[house.chanceTo(at, tone)] * percent;
                    }
                }
                System.arraycopy(nextParts, 0, parts, 0, house.rooms);
            }
        }

        int allThere(Route row) {
            goBack(row, house.pantry);
            long all = 1L;
            for (int i = 0; i < row.length && i < MAX_THERE; i++) {
                all *= 100L;
            }
            long sum = SURE;
            for (int w = 0; w < house.waiters && all > 0; w++) {
                sum = sum * parts[house.standsAt(w)] / all;
            }
            return (int) sum;
        }

        /** Finds the row of at most n tones by which it is likeliest that all are there. */
        int bringBest(int n, Route trial, Route into) {
            int greatest = NONE;
            for (int length = 0; length <= n; length++) {
                trial.beginFirst(length);
                int changed = 0;
                for (int tried = 0; tried < MAX_TRIED && changed != NONE; tried++) {
                    int value = allThere(trial);
                    if (value > greatest) {
                        greatest = value;
                        into.take(trial);
                    }
                    changed = trial.advance(house.tones);
                }
            }
            return greatest;
        }
    }
}
