/** The boundary cases of rows of tones: promises 9 to 14. */
final class RowBounds {
    /** Eight waiters of whom the last two come together behind one tone, all behind two. */
    private static final String EIGHT = "rooms 14;tones 1;lead 0 1;lead 1 2;lead 2 3;lead 3 4;lead 4 5;lead 5 6;"
        + "lead 6 7;lead 7 7;waiter 0;waiter 1;waiter 2;waiter 3;waiter 4;waiter 5;waiter 6;waiter 7;";

    private RowBounds() {
    }

    static void all() {
        plainAndMay();
        rows();
        judge();
        where();
        meeting();
        amiss();
        sees();
        after();
    }

    /** A ring of rooms that one tone leads round. */
    static String ring(int rooms, String more) {
        StringBuilder text = new StringBuilder("rooms " + rooms + ";tones 1;");
        for (int r = 0; r < rooms; r++) {
            text.append("lead ").append(r).append(' ').append((r + 1) % rooms).append(';');
        }
        return text + more;
    }

    /** What all calls refuse that are asked of a row: which row it is, MISSING ones, those that are no ROW. */
    static void refusesRows(Bounds.IntCall call, boolean anyHouse) {
        Bounds.refusedAll(Bounds::standard, "row", -2, call, -1, 4, Integer.MIN_VALUE, Integer.MAX_VALUE);
        Bounds.refused(Bounds::standard, "MISSING", -6, x -> call.ask(x, 2));
        Bounds.refused(Bounds::standard, "no ROW", -3, x -> call.ask(x, 1));
        if (anyHouse) {
            Bounds.refused(Bounds::bare, "MISSING, no ROOMS", -6, x -> call.ask(x, 2));
            Bounds.refused(Bounds::bare, "no TONES", -3, x -> call.ask(x, 0));
        }
    }

    /** One of a hundred is MAY, and ninety-nine of a hundred are no PLAIN WAY. */
    private static void plainAndMay() {
        Bounds.says(0, "WAYS are PLAIN, as they lead without chances; MAY: all to which a TONE may lead, by chance or "
            + "not.");
        for (int percent : new int[] {1, 99}) {
            stays("rooms 2;tones 1;chance 0 0 1 " + percent + ";waiter 0;waiter 1;pantry 1;");
            goes("rooms 2;tones 1;lead 0 1;chance 0 0 0 " + percent + ";waiter 0;waiter 1;pantry 1;");
        }
    }

    /** By PLAIN WAYS nobody ever leaves a room. */
    private static void stays(String text) {
        OneBell x = Bounds.told(text);
        Bounds.row(x, 0, 0, 0);
        Bounds.due("where", x.where(0, 0, 1), 0);
        Bounds.due("meeting", x.meeting(0, 0), -1);
        Bounds.due("meet", x.meet(0, 1), -1);
        Bounds.due("never", x.never(), 1);
        Bounds.due("paired", x.paired(3), -1);
        Bounds.due("mended", x.mended(2), 1);
        Bounds.due("kernel", x.kernel(0, 0), 1);
        Bounds.due("doubt", x.doubt(0, 3, true), 2);
        Bounds.due("byTurns", x.byTurns(3), -1);
        Bounds.due("leads", x.leads(3, 1), -1);
        Bounds.due("deaf", x.deaf(0, 1, 0), -1);
        Bounds.due("apart", x.apart(0, 1, 40), 1);
        Bounds.due("round", x.round(0, 0, 0), 0);
        mayStayOrGo(x);
    }

    /** By PLAIN WAYS all are in room 1 behind one tone. */
    private static void goes(String text) {
        OneBell x = Bounds.told(text);
        Bounds.row(x, 0, 0, 0);
        Bounds.due("where", x.where(0, 0, 1), 1);
        Bounds.due("meeting", x.meeting(0, 0), 1);
        Bounds.due("meet", x.meet(0, 1), 1);
        Bounds.due("never", x.never(), -1);
        Bounds.due("paired", x.paired(3), 1);
        Bounds.due("mended", x.mended(2), -5);
        Bounds.due("kernel", x.kernel(0, 0), 3);
        Bounds.due("doubt", x.doubt(0, 3, true), 0);
        Bounds.due("byTurns", x.byTurns(3), 1);
        Bounds.due("leads", x.leads(3, 1), 1);
        Bounds.due("deaf", x.deaf(0, 1, 0), 1);
        Bounds.due("apart", x.apart(0, 1, 1), 0);
        Bounds.due("round", x.round(0, 0, 0), 1);
        mayStayOrGo(x);
    }

    private static void mayStayOrGo(OneBell x) {
        Bounds.due("reach(0)", x.reach(0), 3);
        Bounds.due("reach(1)", x.reach(1), 2);
        Bounds.due("after", x.after(0, 1), 3);
        Bounds.due("brings", x.brings(1, 2), -1);
        Bounds.due("clean", x.clean(3, -1), -1);
        Bounds.due("rank", x.rank(), 2);
        Bounds.due("lost", x.lost(1), -1);
        Bounds.due("ways", x.ways(12), 0);
    }

    private static void rows() {
        Bounds.says(0, "A ROW is TONES in a ROW OF NUMBERS (each one that there is), at most 40.");
        OneBell x = Bounds.told(ring(3, "waiter 0;"));
        Bounds.row(x, 0, 0, Bounds.times(40, 0));
        Bounds.due("40 TONES", x.where(0, 0, 40), 1);
        Bounds.due("41 numbers", x.numbers(0, 0, 41), -3);
        Bounds.due("40 TONES as ever", x.where(0, 0, 40), 1);
        x.write(0, 39, 1);
        Bounds.due("the last is no TONE", x.where(0, 0, 0), -3);
        x.write(0, 39, -1);
        Bounds.due("the last is below 0", x.where(0, 0, 0), -3);
        OneBell six = Bounds.told("rooms 2;tones 6;waiter 0;");
        Bounds.row(six, 0, 0, 0, 1, 2, 3, 4, 5);
        Bounds.due("TONE 5 of 6", six.where(0, 0, 6), 0);
        six.write(0, 5, 6);
        Bounds.due("TONE 6 of 6", six.where(0, 0, 6), -3);
    }

    private static void judge() {
        Bounds.says(9, "The first place in a ROW OF NUMBERS that isn't a TONE; NONE: it is a ROW.");
        OneBell x = Bounds.told("rooms 2;tones 6;");
        Bounds.row(x, 3, 0, Bounds.times(40, 5));
        Bounds.due("40 TONES", x.judge(3), -1);
        x.write(3, 39, 6);
        Bounds.due("place 39", x.judge(3), 39);
        x.write(3, 0, -1);
        Bounds.due("the first of two", x.judge(3), 0);
        x.write(3, 0, 127);
        Bounds.due("127", x.judge(3), 0);
        Bounds.row(x, 3, 0);
        Bounds.due("no numbers", x.judge(3), -1);
        for (int sort = 0; sort < 4; sort++) {
            x.numbers(0, sort, 2);
            Bounds.due("all 0", x.judge(0), -1);
            x.write(0, 1, 1L << (8 << sort) - 1);
            Bounds.due("the highest bit of sort " + sort, x.judge(0), 1);
            x.write(0, 1, Long.MAX_VALUE);
            Bounds.due("all other bits of sort " + sort, x.judge(0), 1);
        }
        x.write(0, 1, 1L << 32);
        Bounds.due("no TONE, though its lower half is 0", x.judge(0), 1);
        Bounds.says(9, "-2: the ROW; -5: no TONES; -6.");
        Bounds.refusedAll(Bounds::standard, "row", -2, (y, n) -> y.judge(n), -1, 4, Integer.MIN_VALUE,
            Integer.MAX_VALUE);
        Bounds.refusedAll(Bounds::bare, "row, ahead of no TONES", -2, (y, n) -> y.judge(n), -1, 4);
        Bounds.refusedAll(Bounds::bare, "no TONES, row", -5, (y, n) -> y.judge(n), 0, 1, 2, 3);
        Bounds.refused(Bounds::standard, "MISSING", -6, y -> y.judge(2));
    }

    private static void where() {
        Bounds.says(10, "WHERE a waiter is behind i TONES. -2: the ROW, waiter; -6; -3: it is no ROW, i.");
        OneBell x = Bounds.told(ring(14, "waiter 13;"));
        Bounds.row(x, 0, 0, Bounds.times(40, 0));
        Bounds.due("i 0", x.where(0, 0, 0), 13);
        Bounds.due("i 39", x.where(0, 0, 39), (13 + 39) % 14);
        Bounds.due("i 40", x.where(0, 0, 40), (13 + 40) % 14);
        Bounds.due("i 41", x.where(0, 0, 41), -3);
        Bounds.row(x, 0, 0);
        Bounds.due("the empty ROW", x.where(0, 0, 0), 13);
        Bounds.due("the empty ROW, i 1", x.where(0, 0, 1), -3);
        refusesRows((y, n) -> y.where(n, 0, 0), false);
        Bounds.refusedAll(Bounds::standard, "waiter", -2, (y, n) -> y.where(0, n, 0), -1, 3, 8, Integer.MIN_VALUE,
            Integer.MAX_VALUE);
        Bounds.refusedAll(Bounds::standard, "i", -3, (y, n) -> y.where(0, 0, n), -1, 4, 41, Integer.MIN_VALUE,
            Integer.MAX_VALUE);
        Bounds.refused(Bounds::standard, "waiter, ahead of MISSING", -2, y -> y.where(2, 3, 0));
        Bounds.refused(Bounds::standard, "waiter, ahead of no ROW", -2, y -> y.where(1, 3, 0));
        Bounds.refused(Bounds::standard, "MISSING, ahead of i", -6, y -> y.where(2, 0, -1));
        Bounds.refused(Bounds::bare, "no waiters", -2, y -> y.where(3, 0, 0));
        Bounds.says(0, "WHERE a waiter is behind i TONES of a ROW (by PLAIN WAYS).");
        OneBell door = Bounds.told("rooms 2;tones 1;chance 0 0 1 99;waiter 0;");
        Bounds.row(door, 0, 0, 0);
        Bounds.due("not by chance", door.where(0, 0, 1), 0);
    }

    private static void meeting() {
        Bounds.says(0, "A MEETING: behind so many TONES, 1 and more, two waiters in one ROOM.");
        OneBell same = Bounds.told("rooms 2;tones 1;waiter 1;waiter 1;");
        Bounds.row(same, 0, 0);
        Bounds.due("at first there is none", same.meeting(0, 0), -1);
        Bounds.row(same, 0, 0, 0);
        Bounds.due("behind 1", same.meeting(0, 0), 1);
        Bounds.due("of 0 and 1", same.meeting(0, 1), 1);
        Bounds.says(11, "The first MEETING of a ROW: behind how many TONES (what 0), of whom (1: 10 times the first "
            + "waiter and the second, the least such).");
        OneBell eight = Bounds.told(EIGHT);
        Bounds.row(eight, 0, 0, 0);
        Bounds.due("of the last two", eight.meeting(0, 1), 67);
        OneBell late = Bounds.told("rooms 2;tones 2;lead 0 0 1;lead 1 1 1;waiter 0;waiter 1;");
        int[] tones = Bounds.times(40, 0);
        Bounds.row(late, 0, 0, tones);
        Bounds.due("never", late.meeting(0, 0), -1);
        Bounds.due("of nobody", late.meeting(0, 1), -1);
        tones[39] = 1;
        Bounds.row(late, 0, 0, tones);
        Bounds.due("behind 40", late.meeting(0, 0), 40);
        OneBell least = Bounds.told("rooms 3;tones 1;lead 0 0;lead 1 0;lead 2 2;waiter 2;waiter 1;waiter 2;waiter 0;");
        Bounds.row(least, 0, 0, 0);
        Bounds.due("0 and 2, not 1 and 3", least.meeting(0, 1), 2);
        OneBell one = Bounds.told("rooms 2;tones 1;waiter 0;");
        Bounds.row(one, 0, 0, 0);
        Bounds.due("of one waiter", one.meeting(0, 0), -1);
        OneBell nobody = Bounds.told("rooms 2;tones 1;");
        Bounds.row(nobody, 0, 0, 0);
        Bounds.due("of no waiter", nobody.meeting(0, 0), -1);
        Bounds.due("no ROOMS, the empty ROW", Bounds.bare().meeting(3, 0), -1);
        Bounds.says(11, "NONE: there is none; -2: the ROW, what; -6; -3: no ROW.");
        refusesRows((y, n) -> y.meeting(n, 0), true);
        refusesRows((y, n) -> y.meeting(n, 1), true);
        Bounds.refusedAll(Bounds::standard, "what", -2, (y, n) -> y.meeting(0, n), -1, 2, Integer.MIN_VALUE,
            Integer.MAX_VALUE);
        Bounds.refused(Bounds::standard, "what, ahead of MISSING", -2, y -> y.meeting(2, 2));
        Bounds.refused(Bounds::standard, "what, ahead of no ROW", -2, y -> y.meeting(1, 2));
    }

    private static void amiss() {
        Bounds.says(0, "AMISS: behind so many (0, too) a waiter in a barred ROOM, or two in one that is never "
            + "for two.");
        OneBell first = Bounds.told("rooms 2;tones 1;waiter 1;bar 1;");
        Bounds.row(first, 0, 0);
        Bounds.due("behind 0", first.amiss(0, 0), 0);
        Bounds.due("in 1", first.amiss(0, 1), 1);
        OneBell leaves = Bounds.told("rooms 2;tones 2;lead 0 1 1;waiter 0;bar 0;");
        Bounds.row(leaves, 0, 0, 1, 0);
        Bounds.due("behind 0, not behind 1", leaves.amiss(0, 0), 0);
        Bounds.due("in 0", leaves.amiss(0, 1), 0);
        OneBell comes = Bounds.told("rooms 3;tones 2;lead 0 2 1;lead 1 2 2;lead 2 2 2;waiter 0;bar 1;");
        Bounds.row(comes, 0, 0, 1, 0);
        Bounds.due("behind 1, not behind 2", comes.amiss(0, 0), 1);
        Bounds.row(comes, 0, 0, 0, 1);
        Bounds.due("by another TONE", comes.amiss(0, 0), -1);
        OneBell one = Bounds.told("rooms 2;tones 1;waiter 1;two 1;bar 0;");
        Bounds.row(one, 0, 0, 0);
        Bounds.due("one where two are too many", one.amiss(0, 0), -1);
        OneBell two = Bounds.told("rooms 2;tones 1;waiter 1;waiter 1;two 1;");
        Bounds.row(two, 0, 0);
        Bounds.due("two there", two.amiss(0, 0), 0);
        OneBell three = Bounds.told("rooms 2;tones 1;waiter 1;waiter 1;waiter 1;two 1;");
        Bounds.row(three, 0, 0);
        Bounds.due("three there", three.amiss(0, 1), 1);
        OneBell elsewhere = Bounds.told("rooms 3;tones 1;waiter 1;waiter 1;waiter 2;two 2;two 0;");
        Bounds.row(elsewhere, 0, 0);
        Bounds.due("two elsewhere", elsewhere.amiss(0, 0), -1);
        Bounds.says(12, "The first that is AMISS: behind how many TONES (what 0), in which ROOM (1: the least).");
        OneBell late = Bounds.told("rooms 2;tones 2;lead 0 0 1;lead 1 1 1;waiter 0;bar 1;");
        int[] tones = Bounds.times(40, 0);
        Bounds.row(late, 0, 0, tones);
        Bounds.due("never", late.amiss(0, 0), -1);
        Bounds.due("nowhere", late.amiss(0, 1), -1);
        tones[39] = 1;
        Bounds.row(late, 0, 0, tones);
        Bounds.due("behind 40", late.amiss(0, 0), 40);
        OneBell least = Bounds.told("rooms 14;tones 1;waiter 13;waiter 3;waiter 3;waiter 5;bar 13;two 3;bar 5;");
        Bounds.row(least, 0, 0, 0);
        Bounds.due("the least of three", least.amiss(0, 1), 3);
        OneBell last = Bounds.told("rooms 14;tones 1;waiter 13;bar 13;");
        Bounds.row(last, 0, 0, 0);
        Bounds.due("the last ROOM", last.amiss(0, 1), 13);
        Bounds.due("no ROOMS, the empty ROW", Bounds.bare().amiss(3, 0), -1);
        Bounds.says(12, "NONE; -2; -6; -3.");
        refusesRows((y, n) -> y.amiss(n, 0), true);
        refusesRows((y, n) -> y.amiss(n, 1), true);
        Bounds.refusedAll(Bounds::standard, "what", -2, (y, n) -> y.amiss(0, n), -1, 2, Integer.MIN_VALUE,
            Integer.MAX_VALUE);
        Bounds.refused(Bounds::standard, "what, ahead of MISSING", -2, y -> y.amiss(2, 2));
        Bounds.refused(Bounds::standard, "what, ahead of no ROW", -2, y -> y.amiss(1, 2));
    }

    private static void sees() {
        Bounds.says(13, "The sign that a waiter sees behind i TONES. -2; -6; -3.");
        OneBell x = Bounds.told(ring(14, "waiter 13;sign 13 9;sign 11 5;"));
        Bounds.row(x, 0, 0, Bounds.times(40, 0));
        Bounds.due("i 0", x.sees(0, 0, 0), 9);
        Bounds.due("i 1", x.sees(0, 0, 1), 0);
        Bounds.due("i 40", x.sees(0, 0, 40), 5);
        Bounds.due("i 41", x.sees(0, 0, 41), -3);
        OneBell nine = Bounds.told("rooms 2;tones 1;sign 0 9;waiter 0;");
        Bounds.row(nine, 0, 0);
        Bounds.due("in ROOM 0", nine.sees(0, 0, 0), 9);
        refusesRows((y, n) -> y.sees(n, 0, 0), false);
        Bounds.refusedAll(Bounds::standard, "waiter", -2, (y, n) -> y.sees(0, n, 0), -1, 3, 8, Integer.MIN_VALUE,
            Integer.MAX_VALUE);
        Bounds.refusedAll(Bounds::standard, "i", -3, (y, n) -> y.sees(0, 0, n), -1, 4, 41, Integer.MIN_VALUE,
            Integer.MAX_VALUE);
        Bounds.refused(Bounds::standard, "waiter, ahead of MISSING", -2, y -> y.sees(2, 3, 0));
        Bounds.refused(Bounds::standard, "MISSING, ahead of i", -6, y -> y.sees(2, 0, 41));
        Bounds.refused(Bounds::bare, "no waiters", -2, y -> y.sees(3, 0, 0));
    }

    private static void after() {
        Bounds.says(14, "AFTER a ROW a set. -2; -6; -3: no ROW, the set.");
        OneBell x = Bounds.told(ring(14, "chance 0 0 5 1;"));
        Bounds.row(x, 0, 0, 0);
        Bounds.due("the least set", x.after(0, 1), 2 | 32);
        Bounds.due("the last ROOM", x.after(0, 1 << 13), 1);
        Bounds.due("all", x.after(0, 16383), 16383);
        Bounds.due("beyond all", x.after(0, 16384), -3);
        Bounds.row(x, 0, 0);
        Bounds.due("the empty ROW", x.after(0, 8193), 8193);
        OneBell round = Bounds.told(ring(14, ""));
        Bounds.row(round, 0, 0, Bounds.times(40, 0));
        Bounds.due("40 TONES", round.after(0, 1), 1 << 40 % 14);
        refusesRows((y, n) -> y.after(n, 1), true);
        Bounds.refusedAll(Bounds::standard, "set", -3, (y, n) -> y.after(0, n), 0, 8, 9, 16383, -1,
            Integer.MIN_VALUE, Integer.MAX_VALUE);
        Bounds.refused(Bounds::standard, "MISSING, ahead of the set", -6, y -> y.after(2, 0));
        Bounds.refused(Bounds::bare, "no ROOMS, no sets", -3, y -> y.after(3, 1));
        Bounds.says(0, "A set is of ROOMS that there are, one at least.");
        Bounds.due("one", Bounds.told("rooms 2;tones 1;").brings(1, -1), 0);
        Bounds.due("all", Bounds.told("rooms 2;tones 1;").brings(3, -1), -1);
        Bounds.due("none", Bounds.told("rooms 2;tones 1;").brings(0, -1), -3);
        Bounds.due("one that isn't", Bounds.told("rooms 2;tones 1;").brings(4, -1), -3);
        Bounds.due("one that isn't, too", Bounds.told("rooms 2;tones 1;").brings(5, -1), -3);
    }
}
