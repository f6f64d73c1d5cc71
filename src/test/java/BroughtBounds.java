/** The boundary cases of rooms brought together: promises 15 to 25. */
final class BroughtBounds {
    // 652 tones at least bring all rooms into room 9
    private static final String FAR = "rooms 14;tones 2;lead 0 6 10;lead 1 12 12;lead 2 7 7;lead 3 13 5;lead 4 4 2;"
        + "lead 5 11 1;lead 6 8 11;lead 7 1 11;lead 8 9 0;lead 9 5 2;lead 10 13 0;lead 11 0 3;lead 12 3 4;lead 13 7 1;"
        + "chance 0 1 1 1;chance 1 1 0 1;chance 4 1 7 1;chance 6 1 6 1;chance 7 1 0 1;chance 8 1 4 1;chance 9 1 1 1;"
        + "chance 10 0 4 1;chance 10 1 9 1;chance 11 1 9 1;chance 12 1 9 1;";
    // just so many sets come about in these, the first one too
    private static final String ALL_BUT_FULL = "rooms 11;tones 3;lead 0 1 0 0;lead 1 2 1 1;lead 2 3 2 2;lead 3 4 3 3;"
        + "lead 4 5 4 6;lead 5 6 5 5;lead 6 7 6 6;lead 7 8 7 7;lead 8 9 8 1;lead 9 10 9 9;lead 10 0 0 10;";
    private static final String JUST_FULL = "rooms 11;tones 2;lead 0 1 0;lead 1 2 1;lead 2 3 0;lead 3 4 3;lead 4 5 4;"
        + "lead 5 6 5;lead 6 7 2;lead 7 8 7;lead 8 9 8;lead 9 10 9;lead 10 0 0;";
    private static final String ALL_IN_VAIN = "rooms 11;tones 2;lead 0 1 0;lead 1 2 1;lead 2 3 2;lead 3 4 3;"
        + "lead 4 5 4;lead 5 6 5;lead 6 7 6;lead 7 8 7;lead 8 9 10;lead 9 10 6;lead 10 0 0;pantry 2;";
    private static final String ONE_MORE_IN_VAIN = "rooms 11;tones 2;lead 0 1 0;lead 1 2 9;lead 2 3 2;lead 3 4 3;"
        + "lead 4 5 4;lead 5 6 5;lead 6 7 6;lead 7 8 7;lead 8 9 8;lead 9 10 9;lead 10 0 0;pantry 5;";
    private static final int[] NO_SETS = {0, 8, 9, 16383, 16384, -2, Integer.MIN_VALUE, Integer.MAX_VALUE};

    private BroughtBounds() {
    }

    static void all() {
        brings();
        foundLimit();
        clean();
        rank();
        meet();
        never();
        paired();
        lost();
        spare();
        mended();
        kernel();
        ways();
    }

    /** Where one tone leads all but the last room to the last but one. */
    private static String funnel(int rooms, String more) {
        StringBuilder text = new StringBuilder("rooms " + rooms + ";tones 1;");
        for (int r = 0; r < rooms - 2; r++) {
            text.append("lead ").append(r).append(' ').append(rooms - 2).append(';');
        }
        return text + more;
    }

    private static void brings() {
        Bounds.says(0, "BRINGS: the shortest row (the empty one, too; of like ones the first by TONES, as for "
            + "all rows here)");
        OneBell x = Bounds.told("rooms 3;tones 3;lead 0 0 2 2;lead 1 1 2 2;lead 2 2 2 2;");
        Bounds.due("the first of like ones", x.brings(7, -1), 1);
        Bounds.foundIs(x, 1);
        Bounds.due("one ROOM, whichever", x.brings(4, -1), 0);
        Bounds.foundIs(x);
        x.brings(7, -1);
        Bounds.due("one told ROOM", x.brings(2, 2), 0);
        Bounds.foundIs(x);
        x.brings(7, -1);
        Bounds.due("ROOMS of a told set", x.brings(3, 7), 0);
        Bounds.foundIs(x);
        Bounds.says(15, "BRINGS a set to a goal (NONE, or a set of ROOMS), FOUND then: its length. NONE: there "
            + "is none; -3: the sets.");
        OneBell wide = Bounds.told(funnel(14, ""));
        Bounds.due("all but the last", wide.brings(8191, -1), 1);
        Bounds.due("all into two", wide.brings(16383, 3 << 12), 1);
        Bounds.due("all into one", wide.brings(16383, -1), -1);
        Bounds.due("all into all", wide.brings(16383, 16383), 0);
        Bounds.due("beyond all", wide.brings(16384, -1), -3);
        Bounds.due("into beyond all", wide.brings(1, 16384), -3);
        Bounds.refused(Bounds::standard, "none", -1, y -> y.brings(7, 1));
        Bounds.refusedAll(Bounds::standard, "set", -3, (y, n) -> y.brings(n, -1), NO_SETS);
        Bounds.refused(Bounds::standard, "set -1", -3, y -> y.brings(-1, -1));
        Bounds.refusedAll(Bounds::standard, "goal", -3, (y, n) -> y.brings(1, n), NO_SETS);
        Bounds.refused(Bounds::bare, "no ROOMS, no sets", -3, y -> y.brings(1, -1));
        Bounds.refused(Bounds::bare, "no ROOMS, set 0", -3, y -> y.brings(0, -1));
    }

    private static OneBell far() {
        OneBell x = Bounds.told(FAR);
        x.brings(1, 1 << 6 | 1);
        return x;
    }

    private static void foundLimit() {
        Bounds.says(0, "FOUND is the row that was found last (none at first; one that isn't found, or has more than "
            + "500 TONES, leaves it).");
        Bounds.due("none at first", new OneBell().found(-1), -1);
        OneBell x = far();
        Model model = new Model();
        Bounds.due("the model's house", Bounds.tellModel(model, FAR), 27);
        Bounds.due("the model's 501", model.brings(6863, 512), 501);
        Bounds.due("the model's 500", model.brings(12779, 512), 500);
        x.brings(3, 1 << 6 | 1 << 12);
        Bounds.foundIs(x, 0);
        Bounds.due("501 TONES", x.brings(6863, 512), 501);
        Bounds.foundIs(x, 0);
        Bounds.due("501 TONES, clean", x.clean(6863, 512), 501);
        Bounds.foundIs(x, 0);
        Bounds.due("500 TONES", x.brings(12779, 512), 500);
        Bounds.due("500 are FOUND", x.found(-1), 500);
        for (int i = 0; i < 500; i += 7) {
            Bounds.due("TONE " + i, x.found(i), model.found(i));
        }
        Bounds.due("the last one", x.found(499), model.found(499));
        Bounds.due("beyond them", x.found(500), -1);
        Bounds.due("501 TONES leave 500", x.brings(6863, 512), 501);
        Bounds.due("500 are FOUND as ever", x.found(-1), 500);
        x.image(1);
        x.brings(1, 1);
        x.restore(1);
        Bounds.due("500 in an IMAGE", x.found(-1), 500);
        Bounds.due("the last one in an IMAGE", x.found(499), model.found(499));
    }

    private static void clean() {
        Bounds.says(0, "CLEAN: likewise so that behind no TONE any of it MAY be in a barred ROOM.");
        String text = "rooms 4;tones 2;lead 0 1 2;lead 1 3 1;lead 2 2 3;lead 3 3 3;bar 1;";
        OneBell x = Bounds.told(text);
        Bounds.due("not behind the first", x.clean(1, 8), 2);
        Bounds.foundIs(x, 1, 1);
        Bounds.due("not behind the last", x.clean(1, 2), -1);
        Bounds.due("at first it may be", x.clean(2, -1), 0);
        Bounds.due("at first it may be, and then", x.clean(2, 8), 1);
        Bounds.foundIs(x, 0);
        OneBell may = Bounds.told("rooms 3;tones 1;lead 0 1;chance 0 0 2 1;bar 2;");
        Bounds.due("not by 1 of a hundred", may.clean(1, 6), -1);
        Bounds.says(16, "CLEAN, likewise.");
        Bounds.refused(Bounds::standard, "none", -1, y -> y.clean(1, 4));
        Bounds.refusedAll(Bounds::standard, "set", -3, (y, n) -> y.clean(n, -1), NO_SETS);
        Bounds.refused(Bounds::standard, "set -1", -3, y -> y.clean(-1, -1));
        Bounds.refusedAll(Bounds::standard, "goal", -3, (y, n) -> y.clean(1, n), NO_SETS);
        Bounds.refused(Bounds::bare, "no ROOMS, no sets", -3, y -> y.clean(1, -1));
    }

    private static void rank() {
        Bounds.says(17, "RANK. -5: no ROOMS.");
        Bounds.due("1 of 2", Bounds.told("rooms 2;tones 1;lead 0 1;").rank(), 1);
        Bounds.due("2 of 2", Bounds.told("rooms 2;tones 1;").rank(), 2);
        Bounds.due("14 of 14", Bounds.told("rooms 14;tones 6;").rank(), 14);
        Bounds.due("2 of 14", Bounds.told(funnel(14, "")).rank(), 2);
        Bounds.due("by MAY more", Bounds.told("rooms 2;tones 1;lead 0 1;chance 0 0 0 1;").rank(), 2);
        Bounds.refused(Bounds::bare, "no ROOMS", -5, OneBell::rank);
        Bounds.refused(Bounds::standard, "FOUND stays", Bounds.standard().rank(), OneBell::rank);
    }

    private static void meet() {
        Bounds.says(18, "MEET of two ROOMS: its length; NONE: they never do. -2.");
        OneBell x = Bounds.told(funnel(14, ""));
        Bounds.due("one and itself", x.meet(13, 13), 0);
        Bounds.due("0 and 12", x.meet(0, 12), 1);
        Bounds.due("12 and 13", x.meet(12, 13), -1);
        Bounds.due("13 and 14", x.meet(13, 14), -2);
        Bounds.due("14 and 13", x.meet(14, 13), -2);
        Bounds.due("14 and 14", x.meet(14, 14), -2);
        int[] no = {-1, 3, 14, Integer.MIN_VALUE, Integer.MAX_VALUE};
        Bounds.refusedAll(Bounds::standard, "one", -2, (y, n) -> y.meet(n, 0), no);
        Bounds.refusedAll(Bounds::standard, "other", -2, (y, n) -> y.meet(0, n), no);
        Bounds.refused(Bounds::standard, "FOUND stays", 1, y -> y.meet(0, 1));
        Bounds.refused(Bounds::bare, "no ROOMS", -2, y -> y.meet(0, 0));
    }

    private static void never() {
        Bounds.says(19, "The first two ROOMS that never MEET: 100 times the one and the other; NONE: all do.");
        StringBuilder last = new StringBuilder("rooms 14;tones 2;");
        for (int r = 0; r < 12; r++) {
            last.append("lead ").append(r).append(" 12 13;");
        }
        Bounds.due("the last two", Bounds.told(last.toString()).never(), 1213);
        Bounds.due("the first two", Bounds.told("rooms 2;tones 1;").never(), 1);
        Bounds.due("all do", Bounds.told("rooms 2;tones 1;lead 0 1;").never(), -1);
        Bounds.due("0 and 13", Bounds.told(funnel(14, "")).never(), 13);
        Bounds.refused(Bounds::bare, "no ROOMS", -1, OneBell::never);
    }

    private static void paired() {
        Bounds.says(20, "PAIRED, FOUND then: its length. NONE: at last no two of what is left MEET, "
            + "or it would be longer than 500; -3: the set.");
        OneBell one = Bounds.standard();
        Bounds.due("of one ROOM", one.paired(4), 0);
        Bounds.foundIs(one);
        OneBell wide = Bounds.told(funnel(14, ""));
        Bounds.due("all but the last", wide.paired(8191), 1);
        Bounds.foundIs(wide, 0);
        Bounds.due("at last two are left", wide.paired(16383), -1);
        Bounds.foundIs(wide, 0);
        Bounds.due("the last two", wide.paired(3 << 12), -1);
        Bounds.says(0, "those with the shortest MEET (the least first one, then the least other one) are "
            + "brought together by it, till one ROOM is left: all these rows in turn.");
        // by tone 1 both 0 and 1 and 0 and 2 would meet: 0 and 1 come first by tone 0, then 2 by 1
        OneBell least = Bounds.told("rooms 4;tones 2;lead 0 0 3;lead 1 0 1;lead 2 2 3;");
        Bounds.due("the least other one", least.paired(7), 2);
        Bounds.foundIs(least, 0, 1);
        // 0 and 3 meet by tone 0, 1 and 2 by tone 1
        OneBell first = Bounds.told("rooms 5;tones 2;lead 0 3 0;lead 1 1 2;lead 2 0 2;lead 3 3 4;lead 4 4 4;");
        Bounds.due("the least first one", first.paired(15) > 0 ? 1 : 0, 1);
        Bounds.due("its TONE", first.found(0), 0);
        OneBell late = Bounds.told("rooms 14;tones 2;lead 12 13 12;lead 0 0 13;");
        Bounds.due("0 and 13 ahead of 12 and 13", late.paired(1 | 3 << 12), 2);
        Bounds.foundIs(late, 1, 0);
        Bounds.says(20, "or it would be longer than 500; -3: the set.");
        // no row by pairs is longer than (14 * 14 * 14 - 14) / 6 = 455, so that 500 is never passed
        OneBell ring = Bounds.told(ringOfTwo(14));
        Bounds.due("a long one", ring.paired(16383) > 150 ? 1 : 0, 1);
        Bounds.due("it is FOUND", ring.found(-1) > 150 ? 1 : 0, 1);
        Bounds.refused(() -> Bounds.told("rooms 2;tones 1;waiter 0;"), "none", -1, y -> y.paired(3));
        Bounds.refusedAll(Bounds::standard, "set", -3, (y, n) -> y.paired(n), NO_SETS);
        Bounds.refused(Bounds::standard, "set -1", -3, y -> y.paired(-1));
        Bounds.refused(Bounds::bare, "no ROOMS, no sets", -3, y -> y.paired(1));
    }

    /** Tone 0 leads round, tone 1 from the last room to the first. */
    static String ringOfTwo(int rooms) {
        StringBuilder text = new StringBuilder("rooms " + rooms + ";tones 2;");
        for (int r = 0; r < rooms; r++) {
            text.append("lead ").append(r).append(' ').append((r + 1) % rooms).append(' ')
                .append(r == rooms - 1 ? 0 : r).append(';');
        }
        return text.toString();
    }

    private static OneBell full(String text) {
        OneBell x = Bounds.told(text);
        x.brings(1, 1);
        Bounds.row(x, 0, 2, 1, 0);
        return x;
    }

    private static void lost() {
        Bounds.says(0, "FULL, if more than 30,000 such come about ahead of it (each but once, in order of rows).");
        Bounds.due("30,000 ahead of it", full(ALL_BUT_FULL).lost(536) > 0 ? 1 : 0, 1);
        Bounds.due("30,001 ahead of it", full(JUST_FULL).lost(1997), -4);
        Bounds.due("30,000 and none", full(ALL_IN_VAIN).lost(101), -1);
        Bounds.due("30,001 and none", full(ONE_MORE_IN_VAIN).lost(816), -4);
        Bounds.says(0, "LOST: the shortest row by which all of a set MAY be only in the PANTRY, whichever one of its "
            + "TONES, or none, isn't rung.");
        OneBell x = Bounds.told("rooms 3;tones 1;lead 0 1;lead 1 2;pantry 2;");
        Bounds.due("the empty row", x.lost(4), 0);
        Bounds.foundIs(x);
        Bounds.due("one that may be lost", x.lost(2), 2);
        Bounds.foundIs(x, 0, 0);
        Bounds.due("two that may be lost", x.lost(1), 3);
        Bounds.due("there and back",
            Bounds.told("rooms 2;tones 1;lead 0 1;lead 1 0;pantry 1;").lost(1), -1);
        Bounds.says(21, "LOST, FOUND then: its length. NONE: there is none; -3; -4.");
        Bounds.refused(() -> full(JUST_FULL), "FULL", -4, y -> y.lost(1997));
        Bounds.refused(() -> full(ONE_MORE_IN_VAIN), "FULL and none", -4, y -> y.lost(816));
        Bounds.refused(() -> full(ALL_IN_VAIN), "none", -1, y -> y.lost(101));
        Bounds.refusedAll(Bounds::standard, "set", -3, (y, n) -> y.lost(n), NO_SETS);
        Bounds.refused(Bounds::standard, "set -1", -3, y -> y.lost(-1));
        Bounds.refused(Bounds::bare, "no ROOMS, no sets", -3, y -> y.lost(1));
    }

    private static void spare() {
        Bounds.says(22, "SPARE TONES, as bits. -5: no ROOMS.");
        Bounds.due("all six", Bounds.told("rooms 2;tones 6;lead 1 0 0 0 0 0 0;").spare(), 63);
        Bounds.due("the only one", Bounds.told("rooms 2;tones 1;lead 1 0;").spare(), 0);
        Bounds.due("all but the last", Bounds.told("rooms 2;tones 6;lead 1 1 1 1 1 1 0;").spare(), 31);
        Bounds.due("all but the first", Bounds.told("rooms 2;tones 6;lead 1 0 1 1 1 1 1;").spare(), 62);
        Bounds.due("into another ROOM", Bounds.told("rooms 2;tones 2;lead 1 0 0;pantry 1;").spare(), 0);
        Bounds.refused(Bounds::bare, "no ROOMS", -5, OneBell::spare);
    }

    private static void mended() {
        Bounds.says(23, "MENDED, what 0: the ROOM, 1: the TONE, 2: where it would lead. NONE: by none; -2: what; "
            + "-5: no ROOMS, or it is HOME.");
        // only the last room is amiss
        StringBuilder last = new StringBuilder("rooms 14;tones 1;pantry 12;");
        for (int r = 0; r < 12; r++) {
            last.append("lead ").append(r).append(" 12;");
        }
        OneBell x = Bounds.told(last.toString());
        Bounds.due("the last ROOM", x.mended(0), 13);
        Bounds.due("the first TONE", x.mended(1), 0);
        Bounds.due("the first ROOM there", x.mended(2), 0);
        OneBell there = Bounds.told("rooms 3;tones 2;lead 0 1 1;lead 1 0 0;lead 2 2 2;pantry 2;");
        Bounds.due("the first ROOM", there.mended(0), 0);
        Bounds.due("its first TONE", there.mended(1), 0);
        Bounds.due("to the last ROOM", there.mended(2), 2);
        for (int what = 0; what < 3; what++) {
            int asked = what;
            Bounds.refused(() -> Bounds.told("rooms 4;tones 6;waiter 1;"), "by none", -1, y -> y.mended(asked));
            Bounds.refused(() -> Bounds.told("rooms 2;tones 1;lead 0 1;pantry 1;"), "HOME", -5, y -> y.mended(asked));
            Bounds.refused(Bounds::bare, "no ROOMS", -5, y -> y.mended(asked));
        }
        int[] no = {-1, 3, Integer.MIN_VALUE, Integer.MAX_VALUE};
        Bounds.refusedAll(Bounds::standard, "what", -2, (y, n) -> y.mended(n), no);
        Bounds.refusedAll(Bounds::bare, "what, ahead of no ROOMS", -2, (y, n) -> y.mended(n), no);
        Bounds.refused(() -> Bounds.told("rooms 2;tones 1;lead 0 1;pantry 1;"), "what, ahead of HOME", -2,
            y -> y.mended(3));
        Bounds.refused(() -> Bounds.told("rooms 2;tones 1;chance 0 0 1 5;"), "all stays, chances too", 1,
            y -> y.mended(0));
    }

    private static void kernel() {
        Bounds.says(24, "KERNEL, as bits. -2: the ROW, ROOM; -6; -3: no ROW.");
        OneBell x = Bounds.told(funnel(14, ""));
        Bounds.row(x, 0, 0, Bounds.times(40, 0));
        Bounds.due("all but the last", x.kernel(0, 0), 8191);
        Bounds.due("the last", x.kernel(0, 13), 8192);
        Bounds.due("beyond the last", x.kernel(0, 14), -2);
        Bounds.row(x, 0, 0);
        Bounds.due("the empty ROW", x.kernel(0, 5), 32);
        RowBounds.refusesRows((y, n) -> y.kernel(n, 0), false);
        Bounds.refusedAll(Bounds::standard, "room", -2, (y, n) -> y.kernel(0, n), -1, 3, 14, Integer.MIN_VALUE,
            Integer.MAX_VALUE);
        Bounds.refused(Bounds::standard, "room, ahead of MISSING", -2, y -> y.kernel(2, 3));
        Bounds.refused(Bounds::standard, "room, ahead of no ROW", -2, y -> y.kernel(1, 3));
        Bounds.refused(Bounds::bare, "no ROOMS", -2, y -> y.kernel(3, 0));
    }

    private static void ways() {
        Bounds.says(0, "WAYS OF n TONES (0 to 12): how many rows of n bring all ROOMS into one (by MAY), "
            + "modulo 1,000,000,007.");
        OneBell six = Bounds.told("rooms 2;tones 6;lead 1 0 0 0 0 0 0;");
        Bounds.due("n 0", six.ways(0), 0);
        Bounds.due("n 1", six.ways(1), 6);
        Bounds.due("n 11, below the modulus", six.ways(11), 362797056);
        Bounds.due("n 12, beyond twice the modulus", six.ways(12), 2176782336L - 2 * 1000000007L);
        // one tone brings them together: 6 to the 12th but 5 to the 12th
        OneBell one = Bounds.told("rooms 2;tones 6;lead 1 0 1 1 1 1 1;");
        Bounds.due("n 12, beyond the modulus", one.ways(12), 2176782336L - 244140625L - 1000000007L);
        Bounds.says(25, "WAYS OF n TONES. -5: no ROOMS; -3: n.");
        int[] no = {-1, 13, Integer.MIN_VALUE, Integer.MAX_VALUE};
        Bounds.refusedAll(Bounds::standard, "n", -3, (y, n) -> y.ways(n), no);
        Bounds.refusedAll(Bounds::bare, "no ROOMS, ahead of n", -5, (y, n) -> y.ways(n), no);
        Bounds.refusedAll(Bounds::bare, "no ROOMS", -5, (y, n) -> y.ways(n), 0, 12);
    }
}
