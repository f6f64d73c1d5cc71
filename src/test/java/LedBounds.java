/** The boundary cases of what is seen, and of waiters led and kept apart: promises 26 to 36. */
final class LedBounds {
    private static final int[] NO_SETS = {0, 8, 9, 16383, 16384, -1, Integer.MIN_VALUE, Integer.MAX_VALUE};
    private static final int[] NO_ROOMS = {-1, 3, 14, Integer.MIN_VALUE, Integer.MAX_VALUE};
    private static final int[] NO_WAITERS = {-1, 3, 8, Integer.MIN_VALUE, Integer.MAX_VALUE};
    private static final int[] NO_TIMES = {-1, 41, Integer.MIN_VALUE, Integer.MAX_VALUE};
    private static final String EIGHT = "waiter 0;waiter 1;waiter 0;waiter 1;waiter 1;waiter 1;waiter 0;waiter 0;";

    private LedBounds() {
    }

    static void all() {
        doubt();
        telling();
        byTurns();
        alike();
        classes();
        tenSigns();
        proof();
        leads();
        deaf();
        apart();
        aparts();
        round();
    }

    /** Each room leads to the next one, the last one to itself, where a sign is seen. */
    private static String chain(int rooms, String more) {
        StringBuilder text = new StringBuilder("rooms " + rooms + ";tones 1;");
        for (int r = 0; r < rooms - 1; r++) {
            text.append("lead ").append(r).append(' ').append(r + 1).append(';');
        }
        return text + more;
    }

    private static void doubt() {
        Bounds.says(0, "IN DOUBT are those ROOMS of the set with another one of which it doesn't tell;");
        OneBell x = Bounds.told("rooms 14;tones 1;sign 13 9;");
        Bounds.row(x, 0, 0);
        Bounds.due("all but one", x.doubt(0, 16383, false), 13);
        Bounds.due("one alone", x.doubt(0, 1, false), 0);
        Bounds.due("two unlike", x.doubt(0, 1 << 13 | 1, false), 0);
        Bounds.due("two like", x.doubt(0, 3, false), 2);
        Bounds.due("beyond all", x.doubt(0, 16384, false), -3);
        OneBell last = Bounds.told(chain(14, "sign 13 1;"));
        Bounds.row(last, 0, 0, Bounds.times(12, 0));
        Bounds.due("12 TONES", last.doubt(0, 3, false), 0);
        Bounds.row(last, 0, 0, Bounds.times(11, 0));
        Bounds.due("11 TONES", last.doubt(0, 3, false), 2);
        Bounds.row(last, 0, 0, Bounds.times(40, 0));
        Bounds.due("40 TONES", last.doubt(0, 16383, false), 0);
        Bounds.says(0, "by WHERE HE IS: those with another one of which it doesn't tell and that isn't in the "
            + "same ROOM behind it.");
        OneBell same = Bounds.told("rooms 4;tones 1;lead 0 2;lead 1 2;lead 2 2;lead 3 3;");
        Bounds.row(same, 0, 0, 0);
        Bounds.due("in the same ROOM", same.doubt(0, 3, true), 0);
        Bounds.due("where he was", same.doubt(0, 3, false), 2);
        Bounds.due("one in another ROOM", same.doubt(0, 15, true), 4);
        Bounds.row(same, 0, 0);
        Bounds.due("by the empty ROW", same.doubt(0, 3, true), 2);
        Bounds.says(26, "How many ROOMS of a set are IN DOUBT by a ROW, by where he was (false), by where he is "
            + "(true). -2: the ROW; -6; -3: no ROW, the set.");
        for (boolean now : new boolean[] {false, true}) {
            RowBounds.refusesRows((y, n) -> y.doubt(n, 1, now), true);
            Bounds.refusedAll(Bounds::standard, "set", -3, (y, n) -> y.doubt(0, n, now), NO_SETS);
            Bounds.refused(Bounds::standard, "MISSING, ahead of the set", -6, y -> y.doubt(2, 0, now));
            Bounds.refused(Bounds::bare, "no ROOMS, no sets", -3, y -> y.doubt(3, 1, now));
        }
    }

    private static void telling() {
        Bounds.says(0, "BEST TELLING: of all rows of 0 to 5 TONES that with the fewest IN DOUBT (by where he was, "
            + "or by where he is), of these the shortest.");
        OneBell x = Bounds.told(chain(9, "sign 7 1;"));
        Bounds.due("0 TONES tell", x.telling(1 << 7 | 1 << 6, false), 0);
        Bounds.foundIs(x);
        Bounds.due("5 TONES tell", x.telling(1 << 2 | 1 << 1, false), 0);
        Bounds.foundIs(x, 0, 0, 0, 0, 0);
        Bounds.due("6 TONES would tell", x.telling(1 << 1 | 1, false), 2);
        Bounds.foundIs(x);
        OneBell late = Bounds.told(chain(9, ""));
        Bounds.due("5 TONES bring them together", late.telling(3 << 3, true), 0);
        Bounds.foundIs(late, 0, 0, 0, 0, 0);
        Bounds.due("6 TONES would", late.telling(3 << 2, true), 2);
        Bounds.foundIs(late);
        OneBell six = Bounds.told("rooms 3;tones 6;lead 0 0 0 0 0 0 1;lead 1 1 1 1 1 1 2;lead 2 2 2 2 2 2 2;sign 2 1;");
        Bounds.due("by the last TONE", six.telling(3, false), 0);
        Bounds.foundIs(six, 5);
        Bounds.due("of one ROOM", six.telling(1, true), 0);
        Bounds.foundIs(six);
        Bounds.says(27, "BEST TELLING, FOUND then: how many are IN DOUBT. -3: the set.");
        Bounds.refusedAll(Bounds::standard, "set", -3, (y, n) -> y.telling(n, false), NO_SETS);
        Bounds.refusedAll(Bounds::standard, "set", -3, (y, n) -> y.telling(n, true), NO_SETS);
        Bounds.refused(Bounds::bare, "no ROOMS, no sets", -3, y -> y.telling(1, false));
        OneBell wide = Bounds.told("rooms 14;tones 6;");
        Bounds.due("all", wide.telling(16383, true), 14);
        Bounds.foundIs(wide);
        OneBell was = Bounds.told("rooms 14;tones 1;");
        Bounds.due("all, by where he was", was.telling(16383, false), 14);
        Bounds.foundIs(was);
        Bounds.due("beyond all", wide.telling(16384, true), -3);
    }

    private static void byTurns() {
        Bounds.says(0, "BY TURNS: TONES are chosen by what was seen: the least number of them by which one "
            + "surely knows "
            + "where he is (the set being narrowed by the sign of each ROOM, at first, too); at most 40.");
        OneBell ring = Bounds.told(BroughtBounds.ringOfTwo(14));
        Bounds.due("40", ring.brings(60, -1), 40);
        Bounds.due("40 by turns", ring.byTurns(60), 40);
        Bounds.due("41", ring.brings(30, -1), 41);
        Bounds.due("41 by turns", ring.byTurns(30), -1);
        OneBell signs = Bounds.told("rooms 14;tones 1;sign 1 1;sign 2 2;");
        Bounds.due("at first", signs.byTurns(7), 0);
        Bounds.due("never", signs.byTurns(9), -1);
        Bounds.due("the last ROOM alone", signs.byTurns(1 << 13), 0);
        Bounds.due("beyond all", signs.byTurns(16384), -3);
        OneBell late = Bounds.told(chain(14, ""));
        Bounds.due("all into the last ROOM", late.byTurns(16383), 13);
        // behind tone 0 the sign tells by which tone the two that are left come together; 9 is the last sign
        OneBell turns = Bounds.told("rooms 9;tones 3;lead 0 4 0 0;lead 1 5 1 1;lead 2 6 2 2;lead 3 7 3 3;lead 4 4 8 4;"
            + "lead 5 5 8 5;lead 6 6 6 8;lead 7 7 7 8;sign 4 1;sign 5 1;sign 6 9;sign 7 9;");
        Bounds.due("chosen by what was seen", turns.byTurns(15), 2);
        Bounds.due("narrowed at first", turns.byTurns(0xf0), 1);
        Bounds.due("the most of all signs", turns.byTurns(0xff), 2);
        // each two lead to the two of the sign below, the last two into one room
        OneBell stairs = Bounds.told("rooms 7;tones 1;lead 0 6;lead 1 6;lead 2 0;lead 3 1;lead 4 2;lead 5 3;sign 2 1;"
            + "sign 3 1;sign 4 2;sign 5 2;sign 6 3;");
        Bounds.due("the lowest two", stairs.byTurns(3), 1);
        Bounds.due("the two above", stairs.byTurns(15), 2);
        Bounds.due("the two at the top", stairs.byTurns(63), 3);
        Bounds.says(28, "BY TURNS of a set. NONE: by none, or more than 40; -3.");
        Bounds.refused(Bounds::standard, "FOUND stays", Bounds.standard().byTurns(7), y -> y.byTurns(7));
        Bounds.refused(() -> Bounds.told("rooms 2;tones 1;waiter 0;"), "by none", -1, y -> y.byTurns(3));
        Bounds.refusedAll(Bounds::standard, "set", -3, (y, n) -> y.byTurns(n), NO_SETS);
        Bounds.refused(Bounds::bare, "no ROOMS, no sets", -3, y -> y.byTurns(1));
    }

    private static void alike() {
        Bounds.says(29, "ALIKE: 1, 0. -2.");
        OneBell x = Bounds.told(chain(14, "sign 13 1;"));
        Bounds.due("told by the 12th", x.alike(0, 1), 0);
        Bounds.due("the last two", x.alike(12, 13), 0);
        Bounds.due("one and itself", x.alike(13, 13), 1);
        Bounds.due("13 and 14", x.alike(13, 14), -2);
        Bounds.due("all without signs", Bounds.told(chain(14, "")).alike(0, 13), 1);
        Bounds.refusedAll(Bounds::standard, "one", -2, (y, n) -> y.alike(n, 0), NO_ROOMS);
        Bounds.refusedAll(Bounds::standard, "other", -2, (y, n) -> y.alike(0, n), NO_ROOMS);
        Bounds.refused(Bounds::standard, "no ROOM and itself", -2, y -> y.alike(3, 3));
        Bounds.refused(Bounds::bare, "no ROOMS", -2, y -> y.alike(0, 0));
    }

    private static void classes() {
        Bounds.says(30, "CLASSES (0 without ROOMS).");
        Bounds.refused(Bounds::bare, "without ROOMS", 0, OneBell::classes);
        Bounds.due("1", Bounds.told("rooms 14;tones 6;").classes(), 1);
        Bounds.due("14", Bounds.told(chain(14, "sign 13 1;")).classes(), 14);
        Bounds.due("2", Bounds.told("rooms 14;tones 1;sign 13 1;").classes(), 2);
    }

    /** All signs that there can be, and fewer behind them on the same object. */
    private static void tenSigns() {
        Bounds.says(0, "sign: in a ROOM 0 to 9 is seen (0 without).");
        StringBuilder text = new StringBuilder(chain(14, ""));
        for (int r = 0; r < 14; r++) {
            text.append("sign ").append(r).append(' ').append(Math.min(9, r)).append(';');
        }
        OneBell x = Bounds.told(text.toString());
        Bounds.row(x, 0, 0);
        Bounds.due("the ten at first", x.doubt(0, 1023, false), 0);
        Bounds.due("the five of sign 9", x.doubt(0, 16383, false), 5);
        Bounds.due("best told", x.telling(16383, false), 5);
        Bounds.due("best told by where he is", x.telling(16383, true), 0);
        Bounds.foundIs(x, 0, 0, 0, 0);
        Bounds.due("by turns", x.byTurns(16383), 4);
        Bounds.due("the ten by turns", x.byTurns(1023), 0);
        Bounds.due("classes", x.classes(), 10);
        Bounds.due("like", x.alike(9, 13), 1);
        Bounds.due("unlike", x.alike(8, 9), 0);
        Texts.tell(x, "rooms 14;tones 1;sign 0 1;sign 1 2;sign 2 3;sign 3 4;sign 4 5;sign 5 6;sign 6 7;sign 9 8;");
        Bounds.due("two that were of one sign", x.byTurns(1 << 9 | 1 << 10), 0);
        Bounds.due("two that were of two", x.byTurns(1 << 7 | 1 << 8), -1);
        Bounds.due("eight signs and none", x.classes(), 9);
        Texts.tell(x, "rooms 14;tones 1;");
        Bounds.due("no sign tells", x.byTurns(3), -1);
        Bounds.due("no sign", x.classes(), 1);
    }

    private static void proof() {
        Bounds.says(31, "PROOF of two ROOMS, FOUND then: its length. NONE: they are ALIKE; -2.");
        OneBell x = Bounds.told(chain(14, "sign 13 1;"));
        Bounds.due("at first", x.proof(12, 13), 0);
        Bounds.foundIs(x);
        Bounds.due("12 TONES", x.proof(0, 1), 12);
        Bounds.foundIs(x, Bounds.times(12, 0));
        Bounds.due("2 TONES", x.proof(11, 0), 2);
        Bounds.due("beyond the ROOMS", x.proof(0, 14), -2);
        Bounds.refused(Bounds::standard, "one and itself", -1, y -> y.proof(1, 1));
        Bounds.refused(() -> likeHouse(), "ALIKE", -1, y -> y.proof(0, 1));
        Bounds.refusedAll(Bounds::standard, "one", -2, (y, n) -> y.proof(n, 0), NO_ROOMS);
        Bounds.refusedAll(Bounds::standard, "other", -2, (y, n) -> y.proof(0, n), NO_ROOMS);
        Bounds.refused(Bounds::bare, "no ROOMS", -2, y -> y.proof(0, 0));
    }

    private static OneBell likeHouse() {
        OneBell x = Bounds.told("rooms 3;tones 1;sign 2 1;waiter 0;");
        x.proof(0, 2);
        return x;
    }

    private static void leads() {
        Bounds.says(0, "LEADS of two or three waiters (from where they stand at first) to a ROOM: the shortest "
            + "row behind which all these are there, by PLAIN WAYS, so that behind none of its TONES (and at first) "
            + "one of them is AMISS among these.");
        OneBell there = Bounds.told("rooms 14;tones 1;waiter 13;waiter 13;waiter 13;waiter 13;");
        Bounds.due("two, already there", there.leads(3, 13), 0);
        Bounds.foundIs(there);
        Bounds.due("three, already there", there.leads(14, 13), 0);
        Bounds.due("three, never there", there.leads(14, 12), -1);
        Bounds.due("beyond the ROOMS", there.leads(3, 14), -2);
        Bounds.due("four", there.leads(15, 13), -3);
        Bounds.due("one", there.leads(8, 13), -3);
        Bounds.due("none", there.leads(0, 13), -3);
        OneBell amiss = Bounds.told("rooms 2;tones 1;waiter 1;waiter 1;bar 1;");
        Bounds.due("AMISS at first, already there", amiss.leads(3, 1), -1);
        OneBell end = Bounds.told("rooms 3;tones 1;lead 0 2;lead 1 2;waiter 0;waiter 1;two 2;");
        Bounds.due("AMISS behind the last", end.leads(3, 2), -1);
        OneBell between = Bounds.told("rooms 4;tones 1;lead 0 1;lead 1 2;lead 2 3;waiter 0;waiter 2;bar 1;");
        Bounds.due("AMISS behind the first", between.leads(3, 3), -1);
        OneBell others = Bounds.told("rooms 3;tones 1;lead 0 2;lead 1 2;waiter 0;waiter 1;waiter 0;two 0;");
        Bounds.due("AMISS with one who isn't led", others.leads(3, 2), 1);
        Bounds.due("AMISS among these", others.leads(7, 2), -1);
        OneBell three = Bounds.told(BroughtBounds.ringOfTwo(3) + "waiter 0;waiter 1;waiter 2;");
        Bounds.due("three from three ROOMS", three.leads(7, 0), 4);
        Bounds.foundIs(three, 1, 0, 0, 1);
        Bounds.due("the first two", three.leads(3, 0), 3);
        Bounds.foundIs(three, 0, 0, 1);
        Bounds.due("the outer two", three.leads(5, 0), 1);
        Bounds.foundIs(three, 1);
        Bounds.due("the last two", three.leads(6, 0), 2);
        Bounds.foundIs(three, 0, 1);
        String far = BroughtBounds.ringOfTwo(14) + "waiter 3;waiter 6;waiter 10;";
        OneBell ring = Bounds.told(far);
        Model model = new Model();
        Bounds.due("the model's house", Bounds.tellModel(model, far), 19);
        Bounds.due("three on a ring of 14", ring.leads(7, 0), model.leads(7, 0));
        Bounds.due("a long row", ring.found(-1) > 60 ? 1 : 0, 1);
        for (int i = 0; i <= ring.found(-1); i++) {
            Bounds.due("its TONE " + i, ring.found(i), model.found(i));
        }
        Bounds.says(32, "LEADS, of waiters (bits: two or three), FOUND then: its length. NONE: there is none; "
            + "-2: the ROOM; -3: the waiters.");
        OneBell eight = Bounds.told("rooms 2;tones 1;lead 0 1;" + EIGHT);
        Bounds.due("the last three of eight", eight.leads(7 << 5, 1), 1);
        Bounds.due("the last two of eight", eight.leads(3 << 6, 1), 1);
        Bounds.due("one beyond eight", eight.leads(1 << 8 | 1, 1), -3);
        Bounds.due("three beyond eight", eight.leads(7 << 8, 1), -3);
        Bounds.refused(Bounds::standard, "none", -1, y -> y.leads(3, 2));
        Bounds.refusedAll(Bounds::standard, "room", -2, (y, n) -> y.leads(3, n), NO_ROOMS);
        Bounds.refusedAll(Bounds::standard, "room, ahead of the waiters", -2, (y, n) -> y.leads(0, n), NO_ROOMS);
        Bounds.refusedAll(Bounds::standard, "waiters", -3, (y, n) -> y.leads(n, 0), 0, 1, 2, 4, 8, 9, 12, 15, -1,
            Integer.MIN_VALUE, Integer.MIN_VALUE | 1, Integer.MIN_VALUE | 3, 3 << 29, Integer.MAX_VALUE);
        Bounds.refused(Bounds::bare, "no ROOMS", -2, y -> y.leads(3, 0));
        Bounds.refused(() -> Bounds.told("rooms 2;tones 1;"), "no waiters", -3, y -> y.leads(3, 0));
        Bounds.refused(() -> Bounds.told("rooms 2;tones 1;waiter 0;"), "one waiter", -3, y -> y.leads(3, 0));
    }

    private static OneBell two(String more) {
        return Bounds.told("rooms 2;tones 6;lead 0 1 1 1 1 1 1;lead 1 0 0 0 0 0 0;waiter 0;waiter 1;" + more);
    }

    private static void deaf() {
        Bounds.says(33, "DEAF, by a set of TONES (0, too), FOUND then: its length. NONE: there is none; -2: the "
            + "waiters (one twice, too); -3: the set.");
        Bounds.due("deaf to none", two("").deaf(0, 1, 0), -1);
        Bounds.due("deaf to all", two("").deaf(0, 1, 63), -1);
        Bounds.due("deaf to all, in turn", two("").deaf(1, 0, 63), 1);
        OneBell fifth = two("");
        Bounds.due("deaf to the last", fifth.deaf(0, 1, 32), 2);
        Bounds.foundIs(fifth, 0, 5);
        Bounds.due("beyond the TONES", fifth.deaf(0, 1, 64), -3);
        Bounds.due("beyond and within", fifth.deaf(0, 1, 65), -3);
        OneBell there = Bounds.told("rooms 2;tones 1;waiter 0;waiter 0;");
        Bounds.due("both there", there.deaf(0, 1, 1), 0);
        Bounds.foundIs(there);
        OneBell last = Bounds.told("rooms 14;tones 2;lead 0 13 0;lead 1 1 13;waiter 0;waiter 1;waiter 13;pantry 13;");
        Bounds.due("the last ROOM", last.deaf(0, 1, 0), 2);
        Bounds.foundIs(last, 0, 1);
        Bounds.due("deaf to the way there", last.deaf(0, 1, 2), -1);
        OneBell both = Bounds.told("rooms 14;tones 1;waiter 13;waiter 13;waiter 2;waiter 13;pantry 13;");
        Bounds.due("both in the last ROOM at first", both.deaf(0, 1, 0), 0);
        Bounds.due("one of them never", both.deaf(2, 3, 0), -1);
        Bounds.due("the one is there", last.deaf(2, 0, 0), 1);
        OneBell one = Bounds.told("rooms 2;tones 1;waiter 0;waiter 0;pantry 1;");
        Bounds.due("together elsewhere", one.deaf(0, 1, 0), -1);
        Bounds.refused(() -> two(""), "none", -1, y -> y.deaf(0, 1, 0));
        Bounds.refusedAll(Bounds::standard, "one", -2, (y, n) -> y.deaf(n, 0, 0), NO_WAITERS);
        Bounds.refusedAll(Bounds::standard, "other", -2, (y, n) -> y.deaf(0, n, 0), NO_WAITERS);
        Bounds.refusedAll(Bounds::standard, "one twice", -2, (y, n) -> y.deaf(n, n, 0), 0, 1, 2, 3);
        Bounds.refusedAll(Bounds::standard, "tones", -3, (y, n) -> y.deaf(0, 1, n), 4, 5, 64, -1, Integer.MIN_VALUE,
            Integer.MAX_VALUE);
        Bounds.refused(Bounds::standard, "waiters, ahead of the set", -2, y -> y.deaf(0, 0, 4));
        Bounds.refused(Bounds::bare, "no waiters", -2, y -> y.deaf(0, 1, 0));
    }

    private static long power(long base, int times) {
        long power = 1;
        for (int i = 0; i < times; i++) {
            power = power * base % 1000000007L;
        }
        return power;
    }

    private static void apart() {
        Bounds.says(0, "APART n (0 to 40): how many rows of n TONES never bring two waiters into one ROOM "
            + "(behind 1 and more), modulo 1,000,000,007; the first of these.");
        for (int n : new int[] {0, 1, 11, 12, 39, 40}) {
            Bounds.due("n " + n, two("").apart(0, 1, n), power(6, n));
        }
        Bounds.due("n 41", two("").apart(0, 1, 41), -3);
        OneBell same = two("waiter 0;");
        Bounds.due("in one ROOM at first", same.apart(0, 2, 0), 1);
        Bounds.due("in one ROOM for ever", same.apart(0, 2, 1), 0);
        OneBell last = Bounds.told("rooms 2;tones 2;lead 0 0 1;waiter 0;waiter 1;");
        Bounds.due("one row of 40", last.apart(0, 1, 40), 1);
        Bounds.due("not by the last TONE", last.apart(0, 1, 1), 1);
        OneBell swap = Bounds.told("rooms 3;tones 1;lead 0 1;lead 1 2;lead 2 0;waiter 0;waiter 1;");
        Bounds.due("one behind the other", swap.apart(0, 1, 40), 1);
        Bounds.says(34, "APART for two waiters, n TONES: how many rows. -2: the waiters (one twice, too); -3: n.");
        Bounds.refusedAll(Bounds::standard, "one", -2, (y, n) -> y.apart(n, 0, 1), NO_WAITERS);
        Bounds.refusedAll(Bounds::standard, "other", -2, (y, n) -> y.apart(0, n, 1), NO_WAITERS);
        Bounds.refusedAll(Bounds::standard, "one twice", -2, (y, n) -> y.apart(n, n, 1), 0, 1, 2, 3);
        Bounds.refusedAll(Bounds::standard, "n", -3, (y, n) -> y.apart(0, 1, n), NO_TIMES);
        Bounds.refusedAll(Bounds::standard, "waiters, ahead of n", -2, (y, n) -> y.apart(0, 0, n), NO_TIMES);
        Bounds.refused(Bounds::standard, "FOUND stays", Bounds.standard().apart(0, 1, 40), y -> y.apart(0, 1, 40));
        Bounds.refused(Bounds::bare, "no waiters", -2, y -> y.apart(0, 1, 0));
    }

    private static void aparts() {
        Bounds.says(35, "The first of these, FOUND then: n. NONE: there is none; -2; -3.");
        // tone 0 brings them together, tone 1 keeps them, tone 2 would, too
        OneBell x = Bounds.told("rooms 2;tones 3;lead 0 1 0 0;lead 1 1 1 1;waiter 0;waiter 1;waiter 0;");
        Bounds.due("n 0", x.aparts(0, 1, 0), 0);
        Bounds.foundIs(x);
        Bounds.due("n 40", x.aparts(0, 1, 40), 40);
        Bounds.foundIs(x, Bounds.times(40, 1));
        Bounds.due("in one ROOM at first", x.aparts(0, 2, 0), 0);
        Bounds.foundIs(x);
        // behind tone 0 they are apart, but meet by any tone then
        OneBell trap = Bounds.told("rooms 5;tones 2;lead 0 2 0;lead 1 3 1;lead 2 4 4;lead 3 4 4;lead 4 4 4;"
            + "waiter 0;waiter 1;");
        Bounds.due("n 1", trap.aparts(0, 1, 1), 1);
        Bounds.foundIs(trap, 0);
        Bounds.due("n 2", trap.aparts(0, 1, 2), 2);
        Bounds.foundIs(trap, 1, 0);
        int[] forty = Bounds.times(40, 1);
        forty[39] = 0;
        Bounds.due("n 40 behind which they may meet", trap.aparts(0, 1, 40), 40);
        Bounds.foundIs(trap, forty);
        // of 1,000,000,007 rows times some, none must be taken for no row at all
        OneBell many = two("");
        Bounds.due("n 40 of six", many.aparts(0, 1, 40), 40);
        Bounds.foundIs(many, Bounds.times(40, 0));
        Bounds.refused(LedBounds::keptTogether, "none", -1, y -> y.aparts(0, 1, 1));
        Bounds.refused(LedBounds::keptTogether, "none of 40", -1, y -> y.aparts(0, 1, 40));
        Bounds.refusedAll(Bounds::standard, "one", -2, (y, n) -> y.aparts(n, 0, 1), NO_WAITERS);
        Bounds.refusedAll(Bounds::standard, "other", -2, (y, n) -> y.aparts(0, n, 1), NO_WAITERS);
        Bounds.refusedAll(Bounds::standard, "one twice", -2, (y, n) -> y.aparts(n, n, 1), 0, 1, 2, 3);
        Bounds.refusedAll(Bounds::standard, "n", -3, (y, n) -> y.aparts(0, 1, n), NO_TIMES);
        Bounds.refusedAll(Bounds::standard, "waiters, ahead of n", -2, (y, n) -> y.aparts(0, 0, n), NO_TIMES);
        Bounds.refused(Bounds::bare, "no waiters", -2, y -> y.aparts(0, 1, 0));
    }

    private static OneBell keptTogether() {
        OneBell x = Bounds.told("rooms 2;tones 2;waiter 0;waiter 0;lead 1 0 0;");
        x.brings(3, -1);
        return x;
    }

    private static void round() {
        Bounds.says(0, "behind how many times one is for the first time where one comes again and again (LEAD "
            + "IN), and how many times bring one round (TURN).");
        OneBell late = Bounds.told(chain(14, ""));
        Bounds.row(late, 0, 0, 0);
        for (int r = 0; r < 14; r++) {
            Bounds.due("LEAD IN of " + r, late.round(0, r, 0), 13 - r);
            Bounds.due("TURN of " + r, late.round(0, r, 1), 1);
        }
        OneBell ring = Bounds.told(RowBounds.ring(14, ""));
        Bounds.row(ring, 0, 0, 0);
        Bounds.due("no LEAD IN", ring.round(0, 13, 0), 0);
        Bounds.due("all ROOMS round", ring.round(0, 13, 1), 14);
        Bounds.row(ring, 1, 0, Bounds.times(40, 0));
        Bounds.due("40 TONES", ring.round(1, 0, 1), 7);
        Bounds.row(ring, 2, 0);
        Bounds.due("the empty ROW, LEAD IN", ring.round(2, 0, 0), 0);
        Bounds.due("the empty ROW, TURN", ring.round(2, 0, 1), 1);
        Bounds.due("beyond the ROOMS", ring.round(0, 14, 0), -2);
        OneBell both = Bounds.told(RowBounds.ring(14, "lead 13 7;"));
        Bounds.row(both, 0, 0, 0);
        Bounds.due("LEAD IN 7", both.round(0, 0, 0), 7);
        Bounds.due("TURN 7", both.round(0, 0, 1), 7);
        Bounds.says(36, "ROUND, what 0: LEAD IN, 1: TURN. -2: the ROW, ROOM, what; -6; -3: no ROW.");
        for (int what = 0; what < 2; what++) {
            int asked = what;
            RowBounds.refusesRows((y, n) -> y.round(n, 0, asked), false);
            Bounds.refusedAll(Bounds::standard, "room", -2, (y, n) -> y.round(0, n, asked), NO_ROOMS);
            Bounds.refused(Bounds::standard, "room, ahead of MISSING", -2, y -> y.round(2, 3, asked));
            Bounds.refused(Bounds::standard, "room, ahead of no ROW", -2, y -> y.round(1, 3, asked));
            Bounds.refused(Bounds::bare, "no ROOMS", -2, y -> y.round(3, 0, asked));
        }
        Bounds.refusedAll(Bounds::standard, "what", -2, (y, n) -> y.round(0, 0, n), -1, 2, Integer.MIN_VALUE,
            Integer.MAX_VALUE);
        Bounds.refused(Bounds::standard, "what, ahead of MISSING", -2, y -> y.round(2, 0, 2));
        Bounds.refused(Bounds::standard, "what, ahead of no ROW", -2, y -> y.round(1, 0, 2));
    }
}
