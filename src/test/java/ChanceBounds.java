/** The boundary cases of chances, of rows of numbers, of FOUND and of images: promises 37 to 47. */
final class ChanceBounds {
    private static final int[] NO_ROWS = {-1, 4, Integer.MIN_VALUE, Integer.MAX_VALUE};
    private static final int[] NO_WAITERS = {-1, 3, 8, Integer.MIN_VALUE, Integer.MAX_VALUE};

    private ChanceBounds() {
    }

    static void all() {
        parts();
        there();
        best();
        night();
        found();
        numbers();
        write();
        copy();
        image();
        restore();
        count();
    }

    /** From room 0 into the pantry 1 by so many of a hundred, else one stays. */
    private static OneBell door(int percent, int waiters) {
        return Bounds.told("rooms 2;tones 1;pantry 1;chance 0 0 1 " + percent + ";" + "waiter 0;".repeat(waiters));
    }

    private static void parts() {
        Bounds.says(0, "CHANCES of a waiter behind a ROW of at most 8 TONES: of 100 to the number of TONES, "
            + "PARTS in which he is in a ROOM (each TONE by itself; 100 where there is no chance).");
        OneBell x = door(99, 1);
        long all = 1;
        long left = 1;
        for (int n = 0; n <= 8; n++) {
            Bounds.row(x, 0, 0, Bounds.times(n, 0));
            Bounds.due("still there behind " + n, x.parts(0, 0, 0), left);
            Bounds.due("gone behind " + n, x.parts(0, 0, 1), all - left);
            all *= 100;
        }
        Bounds.row(x, 0, 0, Bounds.times(9, 0));
        Bounds.due("behind 9", x.parts(0, 0, 0), -3);
        Bounds.row(x, 0, 0, Bounds.times(40, 0));
        Bounds.due("behind 40", x.parts(0, 0, 0), -3);
        OneBell sure = Bounds.told("rooms 14;tones 1;waiter 13;");
        Bounds.row(sure, 0, 0, Bounds.times(8, 0));
        Bounds.due("all parts of 8", sure.parts(0, 0, 13), 10000000000000000L);
        Bounds.due("no parts", sure.parts(0, 0, 12), 0);
        Bounds.due("beyond the ROOMS", sure.parts(0, 0, 14), -2);
        OneBell rare = door(1, 1);
        Bounds.row(rare, 0, 0, Bounds.times(8, 0));
        long stays = 1;
        for (int i = 0; i < 8; i++) {
            stays *= 99;
        }
        Bounds.due("99 of a hundred, 8 times", rare.parts(0, 0, 0), stays);
        Bounds.says(37, "CHANCES: PARTS of a waiter behind a ROW for a ROOM. -2: the ROW, waiter, ROOM; -6; -3: "
            + "no ROW, more than 8 TONES.");
        RowBounds.refusesRows((y, n) -> y.parts(n, 0, 0), false);
        Bounds.refused(Bounds::standard, "9 TONES", -3, y -> y.parts(3, 0, 0));
        Bounds.refusedAll(Bounds::standard, "waiter", -2, (y, n) -> y.parts(0, n, 0), NO_WAITERS);
        Bounds.refusedAll(Bounds::standard, "room", -2, (y, n) -> y.parts(0, 0, n), -1, 3, 14, Integer.MIN_VALUE,
            Integer.MAX_VALUE);
        Bounds.refused(Bounds::standard, "waiter, ahead of MISSING", -2, y -> y.parts(2, 3, 0));
        Bounds.refused(Bounds::standard, "room, ahead of MISSING", -2, y -> y.parts(2, 0, 3));
        Bounds.refused(Bounds::standard, "room, ahead of 9 TONES", -2, y -> y.parts(3, 0, 3));
        Bounds.refused(Bounds::bare, "no waiters", -2, y -> y.parts(3, 0, 0));
    }

    private static void there() {
        Bounds.says(0, "ALL THERE: behind a ROW of at most 4 TONES, of 1,000,000,000: beginning with it, for "
            + "each waiter times his PARTS for the PANTRY by all PARTS, downwards.");
        OneBell x = door(99, 1);
        long[] dues = {0, 990000000, 999900000, 999999000, 999999990, -3};
        for (int n = 0; n <= 5; n++) {
            Bounds.row(x, 0, 0, Bounds.times(n, 0));
            Bounds.due("behind " + n, x.there(0), dues[n]);
        }
        long[] rare = {1000000000, 10000000, 100000, 1000, 10, 0, 0, 0, 0};
        for (int waiters = 0; waiters <= 8; waiters++) {
            OneBell y = door(1, waiters);
            Bounds.row(y, 0, 0, 0);
            Bounds.due(waiters + " waiters", y.there(0), rare[waiters]);
        }
        // what is left over goes at each waiter, not at the end
        long[] third = {1000000000, 330000000, 108900000, 35937000, 11859210, 3913539, 1291467, 426184, 140640};
        for (int waiters = 0; waiters <= 8; waiters++) {
            OneBell y = door(33, waiters);
            Bounds.row(y, 0, 0, 0);
            Bounds.due(waiters + " waiters, downwards", y.there(0), third[waiters]);
        }
        OneBell sure = Bounds.told("rooms 2;tones 1;lead 0 1;pantry 1;" + "waiter 0;".repeat(8));
        Bounds.row(sure, 0, 0, 0, 0, 0, 0);
        Bounds.due("all eight surely", sure.there(0), 1000000000);
        Bounds.says(38, "ALL THERE behind a ROW. -2: the ROW; -5: no ROOMS; -6; -3: no ROW, more than 4 TONES.");
        RowBounds.refusesRows((y, n) -> y.there(n), false);
        Bounds.refused(Bounds::standard, "9 TONES", -3, y -> y.there(3));
        Bounds.refusedAll(Bounds::bare, "row, ahead of no ROOMS", -2, (y, n) -> y.there(n), NO_ROWS);
        Bounds.refusedAll(Bounds::bare, "no ROOMS, row", -5, (y, n) -> y.there(n), 0, 1, 2, 3);
    }

    private static void best() {
        Bounds.says(0, "BEST of n (0 to 4): of all rows of n TONES at most that with the greatest ALL THERE, of "
            + "like ones the shortest.");
        long[] dues = {0, 990000000, 999900000, 999999000, 999999990};
        for (int n = 0; n <= 4; n++) {
            OneBell x = door(99, 1);
            Bounds.due("n " + n, x.best(n), dues[n]);
            Bounds.foundIs(x, Bounds.times(n, 0));
        }
        Bounds.due("n 5", door(99, 1).best(5), -3);
        OneBell six = Bounds.told("rooms 5;tones 6;lead 0 0 0 0 0 0 1;lead 1 1 1 1 1 1 2;lead 2 2 2 2 2 2 3;"
            + "lead 3 3 3 3 3 3 4;pantry 4;waiter 0;");
        Bounds.due("3 are too few", six.best(3), 0);
        Bounds.foundIs(six);
        Bounds.due("the last row of 4", six.best(4), 1000000000);
        Bounds.foundIs(six, 5, 5, 5, 5);
        OneBell nobody = Bounds.told("rooms 2;tones 6;");
        Bounds.due("without waiters", nobody.best(4), 1000000000);
        Bounds.foundIs(nobody);
        Bounds.says(39, "BEST of n, FOUND then: ALL THERE. -5: no ROOMS; -3: n.");
        int[] no = {-1, 5, Integer.MIN_VALUE, Integer.MAX_VALUE};
        Bounds.refusedAll(Bounds::standard, "n", -3, (y, n) -> y.best(n), no);
        Bounds.refusedAll(Bounds::bare, "no ROOMS, ahead of n", -5, (y, n) -> y.best(n), no);
        Bounds.refusedAll(Bounds::bare, "no ROOMS", -5, (y, n) -> y.best(n), 0, 4);
    }

    private static void night() {
        Bounds.says(0, "A NIGHT by a SEED (x, an int; a DRAW: x becomes 1103515245 x + 12345, it is x >>> 16): "
            + "a ROW is "
            + "rung; behind each TONE waiter by waiter: where there is a chance, DRAW modulo 100 below it: by chance.");
        for (int percent : new int[] {1, 50, 99}) {
            OneBell x = door(percent, 1);
            Bounds.row(x, 0, 0, 0);
            boolean at = false;
            boolean below = false;
            for (int seed = -200; seed <= 200; seed++) {
                int draw = (1103515245 * seed + 12345 >>> 16) % 100;
                Bounds.due(percent + " of a hundred, a DRAW of " + draw, x.night(0, seed, 0), draw < percent ? 1 : 0);
                at |= draw == percent;
                below |= draw == percent - 1;
            }
            Bounds.due("a DRAW at " + percent + " and one below it", at && below ? 1 : 0, 1);
        }
        OneBell edge = door(50, 1);
        Bounds.row(edge, 0, 0, 0);
        for (int seed : new int[] {Integer.MIN_VALUE, Integer.MIN_VALUE + 1, -1, 0, 1, Integer.MAX_VALUE}) {
            long x = (1103515245L * seed + 12345L) & 0xffffffffL;
            Bounds.due("seed " + seed, edge.night(0, seed, 0), (x >> 16) % 100 < 50 ? 1 : 0);
        }
        drawsInTurn();
        OneBell none = door(50, 1);
        Bounds.row(none, 0, 0);
        Bounds.due("the empty ROW", none.night(0, 7, 0), 0);
        Bounds.says(40, "A NIGHT: where a waiter is at its end. -2: the ROW, waiter; -6; -3: no ROW.");
        RowBounds.refusesRows((y, n) -> y.night(n, 1, 0), false);
        Bounds.refusedAll(Bounds::standard, "waiter", -2, (y, n) -> y.night(0, 1, n), NO_WAITERS);
        Bounds.refused(Bounds::standard, "waiter, ahead of MISSING", -2, y -> y.night(2, 1, 3));
        Bounds.refused(Bounds::standard, "waiter, ahead of no ROW", -2, y -> y.night(1, 1, 3));
        Bounds.refused(Bounds::bare, "no waiters", -2, y -> y.night(3, 1, 0));
    }

    /** Forty tones, eight waiters: who has come into the pantry draws no more. */
    private static void drawsInTurn() {
        for (int seed = 0; seed < 20; seed++) {
            OneBell x = door(3, 8);
            Bounds.row(x, 0, 0, Bounds.times(40, 0));
            int[] spots = new int[8];
            int drawn = seed;
            for (int i = 0; i < 40; i++) {
                for (int w = 0; w < 8; w++) {
                    if (spots[w] == 0) {
                        drawn = 1103515245 * drawn + 12345;
                        spots[w] = (drawn >>> 16) % 100 < 3 ? 1 : 0;
                    }
                }
            }
            for (int w = 0; w < 8; w++) {
                Bounds.due("seed " + seed + ", waiter " + w, x.night(0, seed, w), spots[w]);
            }
        }
    }

    private static void found() {
        Bounds.says(41, "Of FOUND, i NONE: how many TONES, else TONE i. NONE: nothing, not so many.");
        OneBell x = Bounds.standard();
        Bounds.due("how many", x.found(-1), 2);
        Bounds.due("the first", x.found(0), 0);
        Bounds.due("the last", x.found(1), 0);
        for (int i : new int[] {-2, 2, 3, 499, 500, 501, Integer.MIN_VALUE, Integer.MAX_VALUE}) {
            Bounds.refused(Bounds::standard, "found(" + i + ")", -1, y -> y.found(i));
        }
        x.brings(1, 1);
        Bounds.due("the empty one", x.found(-1), 0);
        Bounds.due("the empty one's first", x.found(0), -1);
        Bounds.due("nothing", Bounds.bare().found(-1), -1);
        Bounds.due("nothing's first", Bounds.bare().found(0), -1);
    }

    private static void numbers() {
        Bounds.says(0, "ROWS OF NUMBERS 0 to 3 are MISSING at first, or have 0 to 40 numbers of 8 bits (sort "
            + "0), 16 (1), 32 (2), 64 (3).");
        OneBell x = Bounds.told(Bounds.HOUSE);
        for (int row = 0; row < 4; row++) {
            Bounds.due("at first", x.judge(row), -6);
        }
        for (int row = 0; row < 4; row++) {
            for (int sort = 0; sort < 4; sort++) {
                Bounds.due("40 numbers", x.numbers(row, sort, 40), 0);
                Bounds.due("the last of them", x.write(row, 39, 1), 1);
                Bounds.due("one beyond", x.write(row, 40, 1), -7);
                Bounds.due("no number", x.numbers(row, sort, 0), 0);
                Bounds.due("the first of none", x.write(row, 0, 1), -7);
                Bounds.due("it isn't MISSING", x.judge(row), -1);
            }
        }
        Bounds.says(42, "A ROW OF NUMBERS has n numbers of a sort, all 0 (in place of another one): 0. -2: no "
            + "such ROW, sort; -3, and the ROW stays: n is below 0 or above 40.");
        Bounds.row(x, 0, 3, Bounds.times(40, 9));
        Bounds.due("not all 0", x.judge(0), 0);
        x.numbers(0, 0, 40);
        Bounds.due("all 0", x.judge(0), -1);
        Bounds.due("of another sort", x.write(0, 0, 256), 0);
        OneBell one = Bounds.told("rooms 2;tones 1;");
        for (int sort = 0; sort < 4; sort++) {
            Bounds.row(one, 1, sort, Bounds.times(40, 1));
            Bounds.due("all 1", one.judge(1), 0);
            one.numbers(1, sort, 40);
            Bounds.due("all 0, the only TONE", one.judge(1), -1);
        }
        Bounds.refusedAll(Bounds::standard, "n", -3, (y, n) -> y.numbers(0, 2, n), -1, 41, Integer.MIN_VALUE,
            Integer.MAX_VALUE);
        Bounds.refusedAll(Bounds::standard, "n of one that is MISSING", -3, (y, n) -> y.numbers(2, 2, n), -1, 41);
        Bounds.refusedAll(Bounds::standard, "row", -2, (y, n) -> y.numbers(n, 2, 1), NO_ROWS);
        Bounds.refusedAll(Bounds::standard, "sort", -2, (y, n) -> y.numbers(0, n, 1), -1, 4, Integer.MIN_VALUE,
            Integer.MAX_VALUE);
        Bounds.refused(Bounds::standard, "row, ahead of n", -2, y -> y.numbers(4, 0, 41));
        Bounds.refused(Bounds::standard, "sort, ahead of n", -2, y -> y.numbers(0, 4, 41));
    }

    private static void write() {
        Bounds.says(43, "Number i of a ROW OF NUMBERS is v, cut to its sort: as it is there.");
        OneBell x = new OneBell();
        for (int sort = 0; sort < 4; sort++) {
            int bits = 8 << sort;
            long most = Long.MAX_VALUE >> 64 - bits;
            x.numbers(0, sort, 1);
            Bounds.due("the greatest of " + bits + " bits", x.write(0, 0, most), most);
            Bounds.due("one beyond it", x.write(0, 0, most + 1), -most - 1);
            Bounds.due("the least of " + bits + " bits", x.write(0, 0, -most - 1), -most - 1);
            Bounds.due("one below it", x.write(0, 0, -most - 2), most);
            Bounds.due("0", x.write(0, 0, 0), 0);
            Bounds.due("-1", x.write(0, 0, -1), -1);
            Bounds.due("all bits but the highest", x.write(0, 0, Long.MAX_VALUE), sort == 3 ? Long.MAX_VALUE : -1);
            Bounds.due("the highest bit", x.write(0, 0, Long.MIN_VALUE), sort == 3 ? Long.MIN_VALUE : 0);
            if (sort < 3) {
                Bounds.due("all bits round", x.write(0, 0, 1L << bits), 0);
                Bounds.due("all bits", x.write(0, 0, (1L << bits) - 1), -1);
                Bounds.due("once round and 5", x.write(0, 0, (1L << bits) + 5), 5);
            }
        }
        Bounds.says(43, "-2: no such ROW; -6; -7.");
        Bounds.refusedAll(Bounds::standard, "row", -2, (y, n) -> y.write(n, 0, 1), NO_ROWS);
        Bounds.refusedAll(Bounds::standard, "row, ahead of i", -2, (y, n) -> y.write(n, -1, 1), NO_ROWS);
        Bounds.refused(Bounds::standard, "MISSING", -6, y -> y.write(2, 0, 1));
        Bounds.refused(Bounds::standard, "MISSING, ahead of i", -6, y -> y.write(2, -1, 1));
        Bounds.refusedAll(Bounds::standard, "i", -7, (y, n) -> y.write(0, n, 1), -1, 3, 40, Integer.MIN_VALUE,
            Integer.MAX_VALUE);
        Bounds.refusedAll(Bounds::bare, "i of no number", -7, (y, n) -> y.write(3, n, 1), -1, 0);
        OneBell last = Bounds.standard();
        Bounds.due("the last", last.write(0, 2, 9), 9);
        Bounds.due("it is there", last.judge(0), 2);
    }

    private static OneBell foundOf(int tones, int places) {
        OneBell x = Bounds.told(RowBounds.ring(14, "").replace("tones 1", "tones 2")
            .replaceAll("lead (\\d+) (\\d+);", "lead $1 $2 $2;") + "lead 13 0 13;waiter 0;waiter 1;waiter 13;");
        Bounds.due("so many are FOUND", x.aparts(0, 1, tones), tones);
        Bounds.row(x, 0, 0, Bounds.times(places, 9));
        return x;
    }

    private static void copy() {
        Bounds.says(44, "FOUND comes into a ROW OF NUMBERS from its first place on: how many TONES.");
        for (int tones : new int[] {0, 1, 39, 40}) {
            OneBell x = foundOf(tones, tones);
            Bounds.due(tones + " into as many", x.copy(0), tones);
            Bounds.due("they are TONES", x.judge(0), -1);
        }
        OneBell more = foundOf(39, 40);
        Bounds.due("39 into 40", more.copy(0), 39);
        Bounds.due("the last one stays", more.judge(0), 39);
        OneBell none = foundOf(0, 1);
        Bounds.due("none into 1", none.copy(0), 0);
        Bounds.due("it stays", none.judge(0), 0);
        Bounds.says(44, "-2: the ROW; -5: nothing is FOUND; -6; -7: it has not so many places (nothing comes).");
        Bounds.refused(() -> foundOf(1, 0), "1 into none", -7, y -> y.copy(0));
        Bounds.refused(() -> foundOf(40, 39), "40 into 39", -7, y -> y.copy(0));
        OneBell far = Bounds.told(BroughtBounds.ringOfTwo(14));
        far.brings(30, -1);
        Bounds.row(far, 0, 0, Bounds.times(40, 9));
        Bounds.due("41 are FOUND", far.found(-1), 41);
        Bounds.due("41 into 40", far.copy(0), -7);
        Bounds.due("nothing comes", far.judge(0), 0);
        Bounds.refusedAll(Bounds::standard, "row", -2, (y, n) -> y.copy(n), NO_ROWS);
        Bounds.refusedAll(Bounds::bare, "row, ahead of nothing FOUND", -2, (y, n) -> y.copy(n), NO_ROWS);
        Bounds.refusedAll(Bounds::bare, "nothing FOUND, row", -5, (y, n) -> y.copy(n), 0, 1, 2, 3);
        Bounds.refused(Bounds::standard, "MISSING", -6, y -> y.copy(2));
    }

    private static void image() {
        Bounds.says(45, "An IMAGE is made: 0. -2.");
        Bounds.says(0, "IMAGES 0 to 1: THE HOUSE and FOUND, as they were (none at first).");
        OneBell x = Bounds.standard();
        Bounds.due("IMAGE 0", x.image(0), 0);
        Bounds.due("IMAGE 1", x.image(1), 0);
        Bounds.due("IMAGE 2", x.image(2), -2);
        Bounds.says(45, "An IMAGE is made: 0. -2.");
        Bounds.refusedAll(Bounds::standard, "image", -2, (y, n) -> y.image(n), -1, 2, Integer.MIN_VALUE,
            Integer.MAX_VALUE);
        OneBell both = Bounds.standard();
        String house = Bounds.houseOf(both);
        both.image(1);
        both.house(16);
        both.image(0);
        both.brings(1, 1);
        both.restore(1);
        Bounds.due("the one", house.equals(Bounds.houseOf(both)) ? 1 : 0, 1);
        both.restore(0);
        Bounds.due("the other has nothing FOUND", both.found(-1), -1);
        Bounds.due("the other's TONES", both.count(1), 3);
        both.restore(1);
        Bounds.due("the one once more", house.equals(Bounds.houseOf(both)) ? 1 : 0, 1);
    }

    private static void restore() {
        Bounds.says(46, "All that is in an IMAGE is as it was: 0. -2; -5: none was made.");
        Bounds.refusedAll(Bounds::standard, "image", -2, (y, n) -> y.restore(n), -1, 2, Integer.MIN_VALUE,
            Integer.MAX_VALUE);
        Bounds.refused(Bounds::standard, "none was made", -5, y -> y.restore(1));
        Bounds.refusedAll(Bounds::bare, "none was made", -5, (y, n) -> y.restore(n), 0, 1);
        OneBell x = Bounds.standard();
        Bounds.due("restore(0)", x.restore(0), 0);
        Bounds.due("ROOMS", x.count(0), 2);
        Bounds.due("LINES", x.count(2), 4);
        Bounds.foundIs(x, 0);
        Bounds.due("THE TAPE is in no IMAGE", x.count(6), 20);
        Bounds.due("nor is a FAULT", x.fault(0), 3);
        Bounds.due("nor is a ROW OF NUMBERS", x.write(3, 8, 0), 0);
        OneBell none = new OneBell();
        none.image(1);
        Texts.tell(none, Bounds.HOUSE);
        none.aparts(0, 1, 2);
        Bounds.due("one of no HOUSE", none.restore(1), 0);
        Bounds.due("no ROOMS", none.count(0), 0);
        Bounds.due("nothing FOUND", none.found(-1), -1);
        Bounds.due("no sets", none.brings(1, -1), -3);
    }

    private static void count() {
        Bounds.says(47, "0 ROOMS, 1 TONES, 2 LINES, 3 waiters, 4 the PANTRY (NONE without ROOMS), 5 chances, 6 "
            + "bytes on THE TAPE. NONE for others.");
        OneBell x = Bounds.standard();
        long[] dues = {3, 2, 13, 3, 1, 1, 20};
        long[] none = {0, 0, 0, 0, -1, 0, 20};
        for (int what = 0; what < 7; what++) {
            Bounds.due("count(" + what + ")", x.count(what), dues[what]);
            Bounds.due("count(" + what + ") without ROOMS", Bounds.bare().count(what), none[what]);
        }
        for (int what : new int[] {-1, 7, 8, Integer.MIN_VALUE, Integer.MAX_VALUE}) {
            Bounds.refused(Bounds::standard, "count(" + what + ")", -1, y -> y.count(what));
        }
        StringBuilder full = new StringBuilder("rooms6;tones6;");
        for (int r = 0; r < 6; r++) {
            for (int t = 0; t < 6; t++) {
                full.append("chance").append(r).append(' ').append(t).append(' ').append((r + 1) % 6).append(" 9;");
            }
        }
        Bounds.due("chances everywhere", Bounds.told(full.toString()).count(5), 36);
        Bounds.due("a chance that is struck", Bounds.told("rooms 2;tones 1;chance 0 0 1 9;stuck 0 0;").count(5), 0);
    }
}
