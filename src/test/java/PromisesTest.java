import java.util.function.LongSupplier;

/** For each promise of the document: ordinary inputs, the edges, and refused calls that change nothing. */
public final class PromisesTest {
    // by tone 0 round 0 1 2, by tone 1 from 0 to 1
    private static final String RING = "rooms 3;tones 2;lead 0 1 1;lead 1 2 1;lead 2 0 2;"
        + "waiter 0;waiter 2;sign 1 4;";
    // room 0 leads to 1, or by 30 of a hundred nowhere; room 1 is the pantry
    private static final String DOOR = "rooms 2;tones 1;lead 0 1;lead 1 1;chance 0 0 0 30;"
        + "waiter 0;pantry 1;bar 0;two 1;waiter 0;";
    // two rooms that nothing joins
    private static final String LONE = "rooms 2;tones 1;waiter 0;waiter 1;";
    // 14 rooms round by tone 0, by tone 1 from 13 to 0: the longest shortest row, 169 tones
    private static final String LONG_RING = longRing();

    private static int wrong;
    private static int promise;

    private static String longRing() {
        StringBuilder text = new StringBuilder("rooms 14;tones 2;");
        for (int r = 0; r < 14; r++) {
            text.append("lead ").append(r).append(' ').append((r + 1) % 14).append(' ').append(r == 13 ? 0 : r)
                .append(';');
        }
        return text.toString();
    }

    private static void due(String what, long got, long want) {
        if (got != want) {
            wrong++;
            System.out.println("promise " + promise + ": " + what + " answered " + got + ", due is " + want);
        }
    }

    private static OneBell told(String text) {
        OneBell x = new OneBell();
        int lines = Texts.tell(x, text);
        if (lines < 0) {
            due("the house " + text, lines, 0);
        }
        return x;
    }

    private static void row(OneBell x, int row, int... tones) {
        x.numbers(row, 1, tones.length);
        for (int i = 0; i < tones.length; i++) {
            x.write(row, i, tones[i]);
        }
    }

    private static void foundIs(OneBell x, int... tones) {
        due("found(-1)", x.found(-1), tones.length);
        for (int i = 0; i < tones.length; i++) {
            due("found(" + i + ")", x.found(i), tones[i]);
        }
        due("found behind the last", x.found(tones.length), -1);
    }

    /** All that can be seen of an object without changing it. */
    private static String state(OneBell x) {
        StringBuilder all = new StringBuilder();
        for (int i = 0; i < 7; i++) {
            all.append(x.count(i)).append(' ');
        }
        for (int r = 0; r < x.count(0); r++) {
            for (int t = 0; t < x.count(1); t++) {
                all.append(x.way(r, t, 0)).append('/').append(x.way(r, t, 1)).append('/').append(x.way(r, t, 2))
                    .append(' ');
            }
            all.append(x.room(r, 0)).append(x.room(r, 1)).append(x.room(r, 2)).append(' ');
        }
        for (int w = 0; w < x.count(3); w++) {
            all.append(x.waiter(w)).append(' ');
        }
        all.append(x.found(-1)).append(':');
        for (int i = 0; i < x.found(-1); i++) {
            all.append(x.found(i));
        }
        for (int row = 0; row < 4; row++) {
            all.append(' ').append(x.judge(row)).append(x.meeting(row, 0)).append(x.kernel(row, 0));
        }
        return all.append(' ').append(x.fault(0)).append(x.fault(1)).toString();
    }

    private static void refused(OneBell x, String what, long code, LongSupplier call) {
        String before = state(x);
        due(what, call.getAsLong(), code);
        if (!before.equals(state(x))) {
            wrong++;
            System.out.println("promise " + promise + ": " + what + " changed " + before + " to " + state(x));
        }
    }

    private static void newObject() {
        OneBell x = new OneBell();
        for (int i = 0; i < 7; i++) {
            due("count(" + i + ")", x.count(i), i == 4 ? -1 : 0);
        }
        due("found(-1)", x.found(-1), -1);
        due("fault(0)", x.fault(0), 0);
        due("fault(1)", x.fault(1), -1);
        due("write(0, 0, 1)", x.write(0, 0, 1), -6);
        due("restore(0)", x.restore(0), -5);
    }

    private static void feed() {
        OneBell x = new OneBell();
        for (int i = 1; i <= 30; i++) {
            due("feed " + i, x.feed(i, -1, 0, 5, 6), 20 * i);
        }
        refused(x, "feed 31", -5, () -> x.feed(1, 2, 3, 4, 5));
        due("count(6)", x.count(6), 600);
        OneBell y = new OneBell();
        y.feed(0x726f6f6d, 0x7320323b, 0x746f6e65, 0x7320313b, 0x626172ff);
        due("a byte above 127", y.house(20), -31);
        due("its place", y.fault(1), 19);
    }

    private static void house() {
        OneBell x = new OneBell();
        due("house(0)", x.house(0), 0);
        due("ROOMS", x.count(0), 0);
        due("blanks", Texts.tell(x, " \n  "), 0);
        due("RING", Texts.tell(x, RING), 8);
        due("THE TAPE", x.count(6), 0);
        x.brings(7, -1);
        x.feed(0x20202020, 0x20202020, 0x20202020, 0x20202020, 0x20202020);
        refused(x, "house(-1)", -3, () -> x.house(-1));
        refused(x, "house(21)", -3, () -> x.house(21));
        due("THE TAPE stays", x.count(6), 20);
        x.house(0);
        due("THE TAPE is empty then", x.count(6), 0);
        Texts.tell(x, RING);
        x.brings(7, -1);
        due("a fault", Texts.tell(x, "rooms 2;"), -32);
        due("THE TAPE is empty with a FAULT", x.count(6), 0);
        due("ROOMS stay", x.count(0), 3);
        foundIs(x, 1, 0, 0, 1);
        due("another", Texts.tell(x, LONE), 4);
        due("nothing is FOUND", x.found(-1), -1);
        due("no blanks", Texts.tell(x, "rooms2;tones1;lead 0 1;bar1;"), 4);
        due("way(0, 0, 0)", x.way(0, 0, 0), 1);
        due("blanks between", Texts.tell(x, "\n rooms\n 002 ; tones 1 ;"), 2);
        due("n cuts a token", cut("rooms 14;tones 1;", 7), -33);
        lines();
    }

    private static int cut(String text, int n) {
        OneBell x = new OneBell();
        for (int from = 0; from < text.length(); from += 20) {
            int[] five = Texts.five(text, from);
            x.feed(five[0], five[1], five[2], five[3], five[4]);
        }
        return x.house(n);
    }

    private static void lines() {
        OneBell x = told("rooms 3;tones 2;lead 0 1 2;chance 0 0 0 5;chance 0 1 0 6;lead 0 2 1;"
            + "chance 1 0 2 7;chance 1 0 0 8;chance 2 1 0 9;stuck 2 1;lead 2 0 1;stuck 2 0;"
            + "sign 0 3;sign 0 9;pantry 1;pantry 2;bar 0;bar 0;");
        due("lead strikes the ways", x.way(0, 0, 0), 2);
        due("lead strikes the chances", x.way(0, 0, 1), -1);
        due("lead strikes all the ROOM's chances", x.way(0, 1, 2), 0);
        due("the later chance", x.way(1, 0, 1), 0);
        due("the later chance's hundredths", x.way(1, 0, 2), 8);
        due("without lead", x.way(1, 1, 0), 1);
        due("stuck", x.way(2, 0, 0), 2);
        due("lead strikes stuck", x.way(2, 1, 0), 1);
        due("stuck's chance", x.way(2, 1, 1), -1);
        due("chances", x.count(5), 1);
        due("the later sign", x.room(0, 0), 9);
        due("the later pantry", x.count(4), 2);
        due("LINES", x.count(2), 18);
    }

    private static void faultOf(String text, int kind, int place) {
        OneBell x = told(RING);
        due("house of \"" + text + "\"", Texts.tell(x, text), kind == 0 ? 2 : -30 - kind);
        due("its FAULT", x.fault(0), kind);
        due("its place", x.fault(1), place);
    }

    private static void fault() {
        String two = "rooms 2;tones 2;";
        faultOf("rooms 2;tones 2;", 0, -1);
        faultOf("Rooms 2;", 1, 0);
        faultOf("rooms 2,", 1, 7);
        faultOf("rooms 0002;", 1, 6);
        faultOf("rooms 2;tones\t1;", 1, 13);
        faultOf(two + "sign 0 1000 1000;", 1, 23);
        faultOf(two + "lead 0 1 1 1111;", 1, 27);
        faultOf(";", 2, 0);
        faultOf("2", 2, 0);
        faultOf("room 2;", 2, 0);
        faultOf("rooms;", 2, 5);
        faultOf("rooms rooms 2;", 2, 6);
        faultOf("rooms 2", 2, 7);
        faultOf("rooms 2  ", 2, 9);
        faultOf("rooms 2 2;", 2, 8);
        faultOf("tones 2;", 2, 0);
        faultOf("waiter 0;", 2, 0);
        faultOf("rooms 2;waiter 0;", 2, 8);
        faultOf("rooms 2;\n", 2, 9);
        faultOf(two + ";", 2, 16);
        faultOf(two + "lead 0 1;", 2, 24);
        faultOf(two + "lead 0 1 1 9;", 2, 27);
        faultOf(two + "bar 0 0;", 2, 22);
        faultOf(two + "rooms", 4, 16);
        faultOf("rooms 1;", 3, 6);
        faultOf("rooms 15;", 3, 6);
        faultOf("rooms 2;tones 0;", 3, 14);
        faultOf("rooms 2;tones 7;", 3, 14);
        faultOf(two + "chance 0 0 0 50;", 3, 27);
        faultOf(two + "chance 0 0 2 50;", 3, 27);
        faultOf(two + "chance 0 2 1 50;", 3, 25);
        faultOf(two + "chance 0 0 1 0;", 3, 29);
        faultOf(two + "lead 0 1 1;chance 0 0 1 9;", 3, 38);
        faultOf(two + "stuck 0 2;", 3, 24);
        faultOf(two + "sign 0 10;", 3, 23);
        faultOf(two + "pantry 2;", 3, 23);
        faultOf(two + "two 2;", 3, 20);
        faultOf("rooms 2;rooms 2;", 4, 8);
        faultOf(two + "tones 2;", 4, 16);
        StringBuilder nine = new StringBuilder(two);
        for (int i = 0; i < 8; i++) {
            nine.append("waiter 1;");
        }
        due("eight waiters", Texts.tell(new OneBell(), nine.toString()), 10);
        faultOf(nine + "waiter 7;", 4, 88);
        OneBell x = told(RING);
        Texts.tell(x, "rooms 1;");
        x.house(5);
        due("house() that wasn't read leaves it", x.fault(0), 3);
        x.image(0);
        Texts.tell(x, RING);
        due("its FAULT", x.fault(0), 0);
        due("fault(2)", x.fault(2), -1);
        due("fault(-1)", x.fault(-1), -1);
    }

    private static void way() {
        OneBell x = told(DOOR);
        due("way(0, 0, 0)", x.way(0, 0, 0), 1);
        due("way(0, 0, 1)", x.way(0, 0, 1), 0);
        due("way(0, 0, 2)", x.way(0, 0, 2), 30);
        due("way(1, 0, 1)", x.way(1, 0, 1), -1);
        due("way(1, 0, 2)", x.way(1, 0, 2), 0);
        refused(x, "way(2, 0, 0)", -2, () -> x.way(2, 0, 0));
        refused(x, "way(-1, 0, 0)", -2, () -> x.way(-1, 0, 0));
        refused(x, "way(0, 1, 0)", -2, () -> x.way(0, 1, 0));
        refused(x, "way(0, -1, 0)", -2, () -> x.way(0, -1, 0));
        refused(x, "way(0, 0, 3)", -2, () -> x.way(0, 0, 3));
    }

    private static void room() {
        OneBell x = told(DOOR);
        due("room(0, 0)", x.room(0, 0), 0);
        due("room(0, 1)", x.room(0, 1), 1);
        due("room(0, 2)", x.room(0, 2), 0);
        due("room(1, 1)", x.room(1, 1), 0);
        due("room(1, 2)", x.room(1, 2), 1);
        due("a sign", told(RING).room(1, 0), 4);
        refused(x, "room(2, 0)", -2, () -> x.room(2, 0));
        refused(x, "room(0, 3)", -2, () -> x.room(0, 3));
        refused(x, "room(0, -1)", -2, () -> x.room(0, -1));
    }

    private static void waiter() {
        OneBell x = told(RING);
        due("waiter(0)", x.waiter(0), 0);
        due("waiter(1)", x.waiter(1), 2);
        refused(x, "waiter(2)", -2, () -> x.waiter(2));
        refused(x, "waiter(-1)", -2, () -> x.waiter(-1));
    }

    private static void reach() {
        OneBell x = told("rooms 4;tones 1;lead 0 1;chance 0 0 2 1;lead 1 1;lead 2 2;lead 3 0;");
        due("reach(0)", x.reach(0), 7);
        due("reach(1)", x.reach(1), 2);
        due("reach(3)", x.reach(3), 15);
        refused(x, "reach(4)", -2, () -> x.reach(4));
        due("all of a long ring", told(LONG_RING).reach(3), 16383);
    }

    private static void judge() {
        OneBell x = told(RING);
        due("-6", x.judge(0), -6);
        row(x, 0, 0, 1, 2, 0);
        due("judge(0)", x.judge(0), 2);
        row(x, 0, 0, -1);
        due("below 0", x.judge(0), 1);
        row(x, 0);
        due("the empty one", x.judge(0), -1);
        x.numbers(1, 3, 1);
        x.write(1, 0, 1L << 32);
        due("64 bits", x.judge(1), 0);
        refused(x, "judge(4)", -2, () -> x.judge(4));
        refused(x, "judge(-1)", -2, () -> x.judge(-1));
        OneBell y = new OneBell();
        due("no TONES, MISSING", y.judge(0), -5);
        due("no such ROW, no TONES", y.judge(4), -2);
        y.numbers(0, 0, 0);
        due("no TONES, an empty ROW", y.judge(0), -5);
    }

    private static void where() {
        OneBell x = told(RING);
        refused(x, "MISSING", -6, () -> x.where(0, 0, 0));
        row(x, 0, 0, 0, 1);
        due("where(0, 0, 0)", x.where(0, 0, 0), 0);
        due("where(0, 0, 1)", x.where(0, 0, 1), 1);
        due("where(0, 0, 3)", x.where(0, 0, 3), 2);
        due("where(0, 1, 3)", x.where(0, 1, 3), 1);
        refused(x, "i 4", -3, () -> x.where(0, 0, 4));
        refused(x, "i -1", -3, () -> x.where(0, 0, -1));
        refused(x, "waiter 2", -2, () -> x.where(0, 2, 0));
        refused(x, "row 4", -2, () -> x.where(4, 0, 0));
        refused(x, "no waiter, MISSING", -2, () -> x.where(1, 9, 0));
        row(x, 1, 0, 2);
        refused(x, "no ROW", -3, () -> x.where(1, 0, 0));
        OneBell y = told(DOOR);
        row(y, 0, 0);
        due("by PLAIN WAYS", y.where(0, 0, 1), 1);
    }

    private static void meeting() {
        OneBell x = told("rooms 3;tones 2;lead 0 1 0;lead 1 2 1;lead 2 2 2;waiter 0;waiter 2;waiter 1;waiter 0;");
        refused(x, "MISSING", -6, () -> x.meeting(0, 0));
        row(x, 0);
        due("not at first", x.meeting(0, 0), -1);
        row(x, 0, 1);
        due("behind 1", x.meeting(0, 0), 1);
        due("0 and 3", x.meeting(0, 1), 3);
        row(x, 0, 0, 0);
        due("the least two", x.meeting(0, 1), 3);
        OneBell y = told("rooms 3;tones 1;lead 0 1;lead 1 2;lead 2 2;waiter 0;waiter 1;waiter 2;");
        row(y, 0, 0, 0);
        due("of 1 and 2", y.meeting(0, 1), 12);
        due("behind one", y.meeting(0, 0), 1);
        refused(x, "what 2", -2, () -> x.meeting(0, 2));
        refused(x, "row -1", -2, () -> x.meeting(-1, 0));
        row(x, 1, 5);
        refused(x, "no ROW", -3, () -> x.meeting(1, 0));
        OneBell none = new OneBell();
        none.numbers(0, 0, 0);
        due("without waiters", none.meeting(0, 0), -1);
    }

    private static void amiss() {
        OneBell x = told("rooms 4;tones 1;lead 0 1;lead 1 2;lead 2 3;lead 3 3;bar 3;two 3;two 0;"
            + "waiter 1;waiter 1;");
        refused(x, "MISSING", -6, () -> x.amiss(0, 0));
        row(x, 0, 0);
        due("none", x.amiss(0, 0), -1);
        row(x, 0, 0, 0);
        due("behind 2", x.amiss(0, 0), 2);
        due("in 3", x.amiss(0, 1), 3);
        OneBell y = told("rooms 4;tones 1;two 1;bar 2;waiter 2;waiter 1;waiter 1;");
        row(y, 0);
        due("at first", y.amiss(0, 0), 0);
        due("the least ROOM", y.amiss(0, 1), 1);
        OneBell one = told("rooms 2;tones 1;two 0;waiter 0;");
        row(one, 0, 0);
        due("one alone is fine", one.amiss(0, 0), -1);
        refused(x, "what 2", -2, () -> x.amiss(0, 2));
        refused(x, "row 4", -2, () -> x.amiss(4, 0));
        row(x, 1, 1);
        refused(x, "no ROW", -3, () -> x.amiss(1, 1));
    }

    private static void sees() {
        OneBell x = told(RING);
        refused(x, "MISSING", -6, () -> x.sees(0, 0, 0));
        row(x, 0, 0, 0);
        due("sees(0, 0, 0)", x.sees(0, 0, 0), 0);
        due("sees(0, 0, 1)", x.sees(0, 0, 1), 4);
        due("sees(0, 1, 2)", x.sees(0, 1, 2), 4);
        refused(x, "i 3", -3, () -> x.sees(0, 0, 3));
        refused(x, "waiter 2", -2, () -> x.sees(0, 2, 0));
        row(x, 1, 9);
        refused(x, "no ROW", -3, () -> x.sees(1, 0, 0));
    }

    private static void after() {
        OneBell x = told(DOOR);
        refused(x, "MISSING", -6, () -> x.after(0, 1));
        row(x, 0, 0);
        due("by MAY", x.after(0, 1), 3);
        due("after(0, 2)", x.after(0, 2), 2);
        row(x, 1);
        due("the empty ROW", x.after(1, 3), 3);
        refused(x, "the empty set", -3, () -> x.after(0, 0));
        refused(x, "room 2", -3, () -> x.after(0, 4));
        refused(x, "below 0", -3, () -> x.after(0, -1));
        refused(x, "row 4", -2, () -> x.after(4, 1));
        row(x, 2, 1);
        refused(x, "no ROW", -3, () -> x.after(2, 1));
    }

    private static void brings() {
        OneBell x = told(RING);
        due("into one", x.brings(7, -1), 4);
        foundIs(x, 1, 0, 0, 1);
        due("into room 1", x.brings(7, 2), 4);
        due("into room 0", x.brings(7, 1), 6);
        foundIs(x, 1, 0, 0, 1, 0, 0);
        due("into some", x.brings(7, 3), 3);
        foundIs(x, 1, 0, 0);
        due("into all", x.brings(7, 7), 0);
        foundIs(x);
        due("one alone", x.brings(4, -1), 0);
        x.meet(0, 1);
        refused(x, "set 0", -3, () -> x.brings(0, -1));
        refused(x, "set 8", -3, () -> x.brings(8, -1));
        refused(x, "goal 0", -3, () -> x.brings(7, 0));
        refused(x, "goal -2", -3, () -> x.brings(7, -2));
        refused(x, "goal 8", -3, () -> x.brings(7, 8));
        OneBell y = told(DOOR);
        y.brings(2, 2);
        refused(y, "by MAY there is none", -1, () -> y.brings(3, -1));
        OneBell like = told("rooms 2;tones 3;lead 0 0 1 1;lead 1 1 1 1;");
        due("of like ones the first", like.brings(3, -1), 1);
        foundIs(like, 1);
        OneBell far = told(LONG_RING);
        due("169 tones", far.brings(16383, -1), 169);
        due("they are FOUND", far.found(-1), 169);
    }

    private static void clean() {
        OneBell x = told("rooms 4;tones 2;lead 0 1 2;lead 1 3 1;lead 2 2 3;lead 3 3 3;bar 1;");
        due("brings", x.brings(1, 8), 2);
        foundIs(x, 0, 0);
        due("clean", x.clean(1, 8), 2);
        foundIs(x, 1, 1);
        due("a barred ROOM at first", x.clean(2, 8), 1);
        foundIs(x, 0);
        refused(x, "none", -1, () -> x.clean(1, 2));
        due("the empty row in a barred ROOM", x.clean(2, 2), 0);
        refused(x, "set 16", -3, () -> x.clean(16, -1));
        refused(x, "goal 16", -3, () -> x.clean(1, 16));
        OneBell y = told("rooms 3;tones 1;lead 0 1;lead 1 1;lead 2 2;chance 0 0 2 1;bar 2;");
        refused(y, "MAY be barred", -1, () -> y.clean(1, 2));
    }

    private static void rank() {
        due("RING", told(RING).rank(), 1);
        due("LONE", told(LONE).rank(), 2);
        due("DOOR, by MAY", told(DOOR).rank(), 2);
        due("LONG_RING", told(LONG_RING).rank(), 1);
        due("3 of 4", told("rooms 4;tones 1;lead 0 1;").rank(), 3);
        OneBell x = new OneBell();
        refused(x, "no ROOMS", -5, x::rank);
        OneBell y = told(RING);
        y.brings(7, 3);
        refused(y, "FOUND stays", 1, y::rank);
    }

    private static void meet() {
        OneBell x = told(RING);
        due("meet(0, 1)", x.meet(0, 1), 1);
        due("meet(1, 0)", x.meet(1, 0), 1);
        due("meet(1, 2)", x.meet(1, 2), 3);
        due("meet(2, 2)", x.meet(2, 2), 0);
        due("never", told(LONE).meet(0, 1), -1);
        due("by PLAIN WAYS", told(DOOR).meet(0, 1), 1);
        refused(x, "meet(3, 0)", -2, () -> x.meet(3, 0));
        refused(x, "meet(0, -1)", -2, () -> x.meet(0, -1));
        x.brings(7, 3);
        refused(x, "FOUND stays", 1, () -> x.meet(0, 1));
    }

    private static void never() {
        due("RING", told(RING).never(), -1);
        due("LONE", told(LONE).never(), 1);
        due("2 and 11", told("rooms 12;tones 1;lead 0 2;lead 1 2;lead 3 2;lead 4 2;lead 5 2;lead 6 2;lead 7 2;"
            + "lead 8 2;lead 9 2;lead 10 2;lead 11 11;").never(), 11);
        due("102", told("rooms 3;tones 2;lead 0 1 2;lead 1 1 1;lead 2 2 2;").never(), 102);
        due("no ROOMS", new OneBell().never(), -1);
    }

    private static void paired() {
        OneBell x = told(RING);
        due("all", x.paired(7), 4);
        foundIs(x, 1, 0, 0, 1);
        due("one", x.paired(2), 0);
        foundIs(x);
        // 0 and 1 meet by tone 1, then what is left by 0 0, though 0 0 would do for all
        OneBell y = told("rooms 6;tones 2;lead 0 4 0;lead 1 5 0;lead 2 3 2;lead 4 3 4;lead 5 3 5;");
        due("by pairs", y.paired(7), 3);
        foundIs(y, 1, 0, 0);
        due("at once", y.brings(7, -1), 2);
        // 0 and 2 come ahead of 1 and 2, whom tone 1 would bring together
        OneBell like = told("rooms 4;tones 2;lead 0 3 0;lead 1 2 1;lead 2 3 1;lead 3 3 3;");
        due("the least first one", like.paired(7), 2);
        foundIs(like, 0, 0);
        OneBell z = told(LONE);
        z.brings(1, 1);
        refused(z, "none", -1, () -> z.paired(3));
        refused(z, "set 0", -3, () -> z.paired(0));
        refused(z, "set 4", -3, () -> z.paired(4));
        due("by PLAIN WAYS", told(DOOR).paired(3), 1);
    }

    private static void lost() {
        OneBell x = told("rooms 3;tones 1;lead 0 1;lead 1 2;lead 2 2;pantry 2;");
        due("one more than without loss", x.lost(7), 3);
        foundIs(x, 0, 0, 0);
        due("in the PANTRY", x.lost(4), 0);
        foundIs(x);
        due("from 1", x.lost(2), 2);
        OneBell y = told("rooms 2;tones 2;lead 0 1 0;lead 1 0 1;pantry 1;");
        y.brings(1, 2);
        refused(y, "none", -1, () -> y.lost(1));
        refused(y, "set 0", -3, () -> y.lost(0));
        refused(y, "set 4", -3, () -> y.lost(4));
        due("by MAY", told("rooms 2;tones 1;lead 0 1;chance 0 0 0 1;pantry 1;").lost(1), -1);
        OneBell full = told(LONG_RING + "pantry 13;");
        full.brings(3, 3);
        refused(full, "FULL", -4, () -> full.lost(16383));
    }

    private static void spare() {
        OneBell x = told("rooms 2;tones 3;lead 0 1 1 0;lead 1 1 1 0;pantry 1;");
        due("each", x.spare(), 7);
        due("but one", told("rooms 2;tones 3;lead 0 1 0 0;lead 1 1 1 0;pantry 1;").spare(), 6);
        due("RING", told(RING).spare(), 0);
        due("not into the PANTRY", told("rooms 2;tones 2;lead 0 0 0;lead 1 0 0;pantry 1;").spare(), 0);
        due("by PLAIN WAYS",
            told("rooms 2;tones 2;lead 0 1 1;lead 1 1 1;chance 0 0 0 9;chance 1 1 0 9;pantry 1;").spare(), 3);
        OneBell none = new OneBell();
        refused(none, "no ROOMS", -5, none::spare);
    }

    private static void mended() {
        OneBell x = told(LONE);
        due("mended(0)", x.mended(0), 1);
        due("mended(1)", x.mended(1), 0);
        due("mended(2)", x.mended(2), 0);
        OneBell y = told("rooms 3;tones 2;lead 0 0 0;lead 1 0 0;lead 2 2 2;pantry 0;waiter 0;");
        due("the ROOM", y.mended(0), 2);
        due("the TONE", y.mended(1), 0);
        due("to where", y.mended(2), 0);
        refused(y, "all stays", 2, () -> y.mended(0));
        due("by none", told("rooms 4;tones 1;").mended(0), -1);
        refused(x, "what 3", -2, () -> x.mended(3));
        refused(x, "what -1", -2, () -> x.mended(-1));
        OneBell home = told(RING);
        refused(home, "HOME", -5, () -> home.mended(0));
        refused(home, "what ahead of HOME", -2, () -> home.mended(3));
        OneBell none = new OneBell();
        refused(none, "no ROOMS", -5, () -> none.mended(0));
        due("what ahead of no ROOMS", none.mended(3), -2);
    }

    private static void kernel() {
        OneBell x = told(RING);
        refused(x, "MISSING", -6, () -> x.kernel(0, 0));
        row(x, 0, 1);
        due("kernel(0, 0)", x.kernel(0, 0), 3);
        due("kernel(0, 2)", x.kernel(0, 2), 4);
        row(x, 0);
        due("the empty ROW", x.kernel(0, 1), 2);
        refused(x, "room 3", -2, () -> x.kernel(0, 3));
        refused(x, "row 4", -2, () -> x.kernel(4, 0));
        row(x, 1, 2);
        refused(x, "no ROW", -3, () -> x.kernel(1, 0));
    }

    private static void ways() {
        OneBell x = told(RING);
        due("ways(0)", x.ways(0), 0);
        due("ways(4)", x.ways(4), 1);
        due("ways(5)", x.ways(5), 4);
        // all of 6 to the 12th
        due("modulo", told("rooms 2;tones 6;lead 1 0 0 0 0 0 0;").ways(12), 2176782336L % 1000000007L);
        due("by MAY", told(DOOR).ways(5), 0);
        refused(x, "n 13", -3, () -> x.ways(13));
        refused(x, "n -1", -3, () -> x.ways(-1));
        OneBell none = new OneBell();
        refused(none, "no ROOMS", -5, () -> none.ways(13));
    }

    private static void doubt() {
        OneBell x = told(RING);
        refused(x, "MISSING", -6, () -> x.doubt(0, 7, false));
        row(x, 0);
        due("at first", x.doubt(0, 7, false), 2);
        due("of one", x.doubt(0, 2, false), 0);
        due("of 0 and 1", x.doubt(0, 3, false), 0);
        row(x, 0, 0);
        due("behind tone 0", x.doubt(0, 7, false), 0);
        OneBell y = told("rooms 3;tones 1;lead 0 2;lead 1 2;lead 2 2;");
        row(y, 0, 0);
        due("where he was", y.doubt(0, 7, false), 3);
        due("where he is", y.doubt(0, 7, true), 0);
        row(y, 0);
        due("where he is, by none", y.doubt(0, 7, true), 3);
        refused(x, "set 0", -3, () -> x.doubt(0, 0, true));
        refused(x, "set 8", -3, () -> x.doubt(0, 8, true));
        refused(x, "row 4", -2, () -> x.doubt(4, 7, true));
        row(x, 1, 2);
        refused(x, "no ROW", -3, () -> x.doubt(1, 7, true));
    }

    private static void telling() {
        OneBell x = told(RING);
        due("all told", x.telling(7, false), 0);
        foundIs(x, 0);
        due("told at first", x.telling(3, false), 0);
        foundIs(x);
        OneBell y = told(LONE);
        due("nothing tells", y.telling(3, false), 2);
        foundIs(y);
        // tone 1 brings them together, tone 0 tells them but for one tone more
        OneBell z = told("rooms 3;tones 2;lead 0 1 2;lead 1 2 2;lead 2 2 2;sign 2 1;");
        due("where he was", z.telling(3, false), 0);
        foundIs(z, 0);
        OneBell both = told("rooms 2;tones 3;lead 0 0 1 1;lead 1 1 1 1;");
        due("where he is", both.telling(3, true), 0);
        foundIs(both, 1);
        due("where he was", both.telling(3, false), 2);
        foundIs(both);
        // 5 tones are too few where 6 would tell
        OneBell six = told("rooms 9;tones 1;lead 0 1;lead 1 2;lead 2 3;lead 3 4;lead 4 5;lead 5 6;lead 6 7;lead 7 8;"
            + "sign 7 1;");
        due("at most 5", six.telling(3, false), 2);
        foundIs(six);
        due("5 do", six.telling(6, false), 0);
        due("5 TONES", six.found(-1), 5);
        refused(x, "set 0", -3, () -> x.telling(0, false));
        refused(x, "set 8", -3, () -> x.telling(8, true));
    }

    private static void byTurns() {
        OneBell x = told(RING);
        due("all", x.byTurns(7), 1);
        due("one", x.byTurns(4), 0);
        due("told at first", x.byTurns(3), 0);
        due("never", told(LONE).byTurns(3), -1);
        // behind tone 0 the sign tells whether tone 1 or tone 2 brings the two that are left together
        OneBell y = told("rooms 9;tones 3;lead 0 4 0 0;lead 1 5 1 1;lead 2 6 2 2;lead 3 7 3 3;"
            + "lead 4 4 8 4;lead 5 5 8 5;lead 6 6 6 8;lead 7 7 7 8;sign 4 1;sign 5 1;sign 6 2;sign 7 2;");
        due("chosen as one goes", y.byTurns(15), 2);
        due("behind the sign", y.byTurns(0x30), 1);
        due("of both signs", y.byTurns(0xf0), 1);
        due("more than 40", told(LONG_RING).byTurns(16383), -1);
        refused(x, "set 0", -3, () -> x.byTurns(0));
        refused(x, "set 8", -3, () -> x.byTurns(8));
    }

    private static void alike() {
        OneBell x = told("rooms 4;tones 1;lead 0 2;lead 1 3;lead 2 2;lead 3 2;sign 2 1;sign 3 1;");
        due("alike(0, 1)", x.alike(0, 1), 1);
        due("alike(2, 3)", x.alike(2, 3), 1);
        due("alike(0, 2)", x.alike(0, 2), 0);
        due("alike(3, 3)", x.alike(3, 3), 1);
        due("behind a tone", told(RING).alike(0, 2), 0);
        refused(x, "alike(4, 0)", -2, () -> x.alike(4, 0));
        refused(x, "alike(0, -1)", -2, () -> x.alike(0, -1));
    }

    private static void classes() {
        due("two kinds", told("rooms 4;tones 1;lead 0 2;lead 1 3;lead 2 2;lead 3 2;sign 2 1;sign 3 1;").classes(), 2);
        due("RING", told(RING).classes(), 3);
        due("LONE", told(LONE).classes(), 1);
        due("without ROOMS", new OneBell().classes(), 0);
    }

    private static void proof() {
        OneBell x = told("rooms 4;tones 2;lead 0 0 1;lead 1 1 2;lead 2 2 3;lead 3 3 3;sign 3 5;");
        due("proof(0, 1)", x.proof(0, 1), 2);
        foundIs(x, 1, 1);
        due("proof(2, 3)", x.proof(2, 3), 0);
        foundIs(x);
        x.proof(1, 0);
        refused(x, "ALIKE", -1, () -> x.proof(2, 2));
        refused(x, "proof(4, 0)", -2, () -> x.proof(4, 0));
        refused(x, "proof(0, 4)", -2, () -> x.proof(0, 4));
        OneBell like = told("rooms 2;tones 3;lead 0 0 0 1;lead 1 0 1 0;sign 1 1;");
        due("at first", like.proof(0, 1), 0);
    }

    private static void leads() {
        OneBell x = told(RING);
        due("to 1", x.leads(3, 1), 2);
        foundIs(x, 0, 1);
        due("to 0", x.leads(3, 0), 4);
        OneBell y = told("rooms 4;tones 2;lead 0 1 2;lead 1 3 1;lead 2 2 3;lead 3 3 3;bar 1;"
            + "waiter 0;waiter 3;waiter 2;waiter 1;waiter 3;");
        due("not through a barred ROOM", y.leads(3, 3), 2);
        foundIs(y, 1, 1);
        due("three", y.leads(7, 3), 2);
        due("already there", y.leads(18, 3), 0);
        foundIs(y);
        y.leads(3, 3);
        refused(y, "AMISS at first", -1, () -> y.leads(10, 3));
        refused(y, "none", -1, () -> y.leads(3, 0));
        refused(y, "room 4", -2, () -> y.leads(3, 4));
        refused(y, "room 4, waiters", -2, () -> y.leads(0, 4));
        refused(y, "one", -3, () -> y.leads(1, 0));
        refused(y, "four", -3, () -> y.leads(15, 0));
        refused(y, "waiter 5", -3, () -> y.leads(33, 0));
        refused(y, "below 0", -3, () -> y.leads(0x80000001, 0));
        OneBell two = told("rooms 3;tones 2;lead 0 1 1;lead 1 2 0;lead 2 2 2;two 1;waiter 0;waiter 0;waiter 1;");
        refused(two, "never for two", -1, () -> two.leads(3, 2));
        due("others are not looked at", two.leads(5, 2), 2);
        foundIs(two, 0, 0);
        refused(two, "the ROOM itself is never for two", -1, () -> two.leads(5, 1));
    }

    private static void deaf() {
        OneBell x = told(RING);
        due("deaf to tone 1", x.deaf(0, 1, 2), 6);
        foundIs(x, 1, 0, 0, 1, 0, 0);
        OneBell y = told("rooms 2;tones 2;lead 0 1 1;lead 1 0 0;waiter 0;waiter 1;");
        due("deaf to tone 0", y.deaf(0, 1, 1), 2);
        foundIs(y, 0, 1);
        due("in turn", y.deaf(1, 0, 1), 1);
        foundIs(y, 0);
        refused(y, "hears all", -1, () -> y.deaf(0, 1, 0));
        refused(y, "one twice", -2, () -> y.deaf(1, 1, 0));
        refused(y, "waiter 2", -2, () -> y.deaf(0, 2, 0));
        refused(y, "waiter -1", -2, () -> y.deaf(-1, 0, 9));
        refused(y, "tone 2", -3, () -> y.deaf(0, 1, 4));
        refused(y, "below 0", -3, () -> y.deaf(0, 1, -1));
        OneBell home = told("rooms 2;tones 1;waiter 0;waiter 0;");
        due("both there", home.deaf(0, 1, 0), 0);
        foundIs(home);
    }

    private static void apart() {
        OneBell x = told(RING);
        due("apart(0, 1, 0)", x.apart(0, 1, 0), 1);
        due("apart(0, 1, 1)", x.apart(0, 1, 1), 2);
        due("apart(0, 1, 2)", x.apart(0, 1, 2), 3);
        due("apart(1, 0, 2)", x.apart(1, 0, 2), 3);
        long rows = 1;
        for (int i = 0; i < 40; i++) {
            rows = rows * 6 % 1000000007L;
        }
        due("modulo", told("rooms 2;tones 6;waiter 0;waiter 1;").apart(0, 1, 40), rows);
        OneBell one = told("rooms 2;tones 2;waiter 0;waiter 0;");
        due("in one ROOM at first", one.apart(0, 1, 0), 1);
        due("in one ROOM for ever", one.apart(0, 1, 1), 0);
        refused(x, "n 41", -3, () -> x.apart(0, 1, 41));
        refused(x, "n -1", -3, () -> x.apart(0, 1, -1));
        refused(x, "one twice", -2, () -> x.apart(0, 0, 41));
        refused(x, "waiter 2", -2, () -> x.apart(2, 0, 1));
    }

    private static void aparts() {
        OneBell x = told("rooms 3;tones 3;lead 0 2 1 0;lead 1 2 2 1;lead 2 2 2 2;waiter 0;waiter 1;");
        due("aparts(0, 1, 2)", x.aparts(0, 1, 2), 2);
        foundIs(x, 1, 2);
        due("aparts(0, 1, 1)", x.aparts(0, 1, 1), 1);
        foundIs(x, 1);
        due("aparts(0, 1, 0)", x.aparts(0, 1, 0), 0);
        foundIs(x);
        due("aparts(0, 1, 40)", x.aparts(0, 1, 40), 40);
        OneBell one = told("rooms 2;tones 2;waiter 0;waiter 0;");
        one.aparts(0, 1, 0);
        refused(one, "none", -1, () -> one.aparts(0, 1, 1));
        refused(one, "n 41", -3, () -> one.aparts(0, 1, 41));
        refused(one, "one twice", -2, () -> one.aparts(1, 1, 1));
        refused(one, "waiter 2", -2, () -> one.aparts(0, 2, 41));
    }

    private static void round() {
        OneBell x = told("rooms 5;tones 2;lead 0 1 0;lead 1 2 0;lead 2 3 0;lead 3 1 0;lead 4 0 4;");
        refused(x, "MISSING", -6, () -> x.round(0, 0, 0));
        row(x, 0, 0);
        due("LEAD IN of 4", x.round(0, 4, 0), 2);
        due("TURN of 4", x.round(0, 4, 1), 3);
        due("LEAD IN of 2", x.round(0, 2, 0), 0);
        row(x, 1, 0, 0);
        due("LEAD IN by twice", x.round(1, 4, 0), 1);
        due("TURN by twice", x.round(1, 4, 1), 3);
        row(x, 2);
        due("the empty ROW's LEAD IN", x.round(2, 4, 0), 0);
        due("the empty ROW's TURN", x.round(2, 4, 1), 1);
        refused(x, "room 5", -2, () -> x.round(0, 5, 0));
        refused(x, "what 2", -2, () -> x.round(0, 0, 2));
        refused(x, "row 4", -2, () -> x.round(4, 0, 0));
        row(x, 3, 2);
        refused(x, "no ROW", -3, () -> x.round(3, 0, 0));
        OneBell far = told(LONG_RING);
        row(far, 0, 0);
        due("14 round", far.round(0, 5, 1), 14);
    }

    private static void parts() {
        OneBell x = told(DOOR);
        refused(x, "MISSING", -6, () -> x.parts(0, 0, 0));
        row(x, 0);
        due("the empty ROW, there", x.parts(0, 0, 0), 1);
        due("the empty ROW, elsewhere", x.parts(0, 0, 1), 0);
        row(x, 0, 0, 0);
        due("parts(0, 0, 0)", x.parts(0, 0, 0), 900);
        due("parts(0, 0, 1)", x.parts(0, 0, 1), 9100);
        row(x, 0, 0, 0, 0, 0, 0, 0, 0, 0);
        due("8 TONES", x.parts(0, 0, 1), 10000000000000000L - 656100000000L);
        row(x, 1, 0, 0, 0, 0, 0, 0, 0, 0, 0);
        refused(x, "9 TONES", -3, () -> x.parts(1, 0, 0));
        refused(x, "waiter 2", -2, () -> x.parts(0, 2, 0));
        refused(x, "room 2", -2, () -> x.parts(0, 0, 2));
        refused(x, "row 4", -2, () -> x.parts(4, 0, 0));
        row(x, 2, 1);
        refused(x, "no ROW", -3, () -> x.parts(2, 0, 0));
    }

    private static void there() {
        OneBell x = told(DOOR);
        refused(x, "MISSING", -6, () -> x.there(0));
        row(x, 0, 0, 0);
        due("there(0)", x.there(0), 828100000);
        row(x, 0);
        due("the empty ROW", x.there(0), 0);
        row(x, 0, 0, 0, 0, 0);
        due("4 TONES, downwards", x.there(0), 1000000000L * 99190000 / 100000000 * 99190000 / 100000000);
        row(x, 1, 0, 0, 0, 0, 0);
        refused(x, "5 TONES", -3, () -> x.there(1));
        refused(x, "row 4", -2, () -> x.there(4));
        row(x, 2, 1);
        refused(x, "no ROW", -3, () -> x.there(2));
        OneBell three = told("rooms 2;tones 1;lead 0 1;chance 0 0 0 67;pantry 1;waiter 0;waiter 0;waiter 0;waiter 0;"
            + "waiter 0;waiter 0;");
        row(three, 0, 0);
        // 330000000, 108900000, 35937000, 11859210, 3913539, 1291467
        due("downwards each time", three.there(0), 1291467);
        OneBell none = new OneBell();
        refused(none, "no ROOMS, MISSING", -5, () -> none.there(0));
        due("no such ROW, no ROOMS", none.there(4), -2);
        OneBell empty = told("rooms 2;tones 1;");
        row(empty, 0);
        due("without waiters", empty.there(0), 1000000000);
    }

    private static void best() {
        OneBell x = told(DOOR);
        due("best(0)", x.best(0), 0);
        foundIs(x);
        due("best(1)", x.best(1), 490000000);
        foundIs(x, 0);
        due("best(2)", x.best(2), 828100000);
        foundIs(x, 0, 0);
        OneBell y = told(RING);
        due("best(4)", y.best(4), 1000000000);
        foundIs(y, 0, 1, 0, 0);
        due("the shortest of like ones", y.best(3), 0);
        foundIs(y);
        refused(x, "n 5", -3, () -> x.best(5));
        refused(x, "n -1", -3, () -> x.best(-1));
        OneBell none = new OneBell();
        refused(none, "no ROOMS", -5, () -> none.best(5));
    }

    private static void night() {
        OneBell x = told("rooms 3;tones 2;lead 0 1 2;lead 1 1 1;lead 2 2 2;chance 0 0 2 50;"
            + "waiter 0;waiter 1;waiter 0;");
        refused(x, "MISSING", -6, () -> x.night(0, 1, 0));
        row(x, 0, 0);
        for (int seed : new int[] {0, 1, 2, 3, -1, 77, Integer.MIN_VALUE, Integer.MAX_VALUE}) {
            int first = 1103515245 * seed + 12345;
            int second = 1103515245 * first + 12345;
            due("waiter 0 by " + seed, x.night(0, seed, 0), (first >>> 16) % 100 < 50 ? 2 : 1);
            due("waiter 1 has no chance", x.night(0, seed, 1), 1);
            due("waiter 2 by the second DRAW", x.night(0, seed, 2), (second >>> 16) % 100 < 50 ? 2 : 1);
        }
        for (int seed = 0; seed < 3000; seed++) {
            int draw = (1103515245 * seed + 12345 >>> 16) % 100;
            if (draw == 49 || draw == 50) {
                due("a DRAW of " + draw, x.night(0, seed, 0), draw == 49 ? 2 : 1);
            }
        }
        row(x, 1, 1);
        due("by PLAIN WAYS", x.night(1, 5, 0), 2);
        row(x, 2);
        due("the empty ROW", x.night(2, 5, 2), 0);
        refused(x, "waiter 3", -2, () -> x.night(0, 1, 3));
        refused(x, "row 4", -2, () -> x.night(4, 1, 0));
        row(x, 3, 2);
        refused(x, "no ROW", -3, () -> x.night(3, 1, 0));
    }

    private static void found() {
        OneBell x = told(RING);
        due("nothing", x.found(-1), -1);
        due("nothing", x.found(0), -1);
        x.brings(7, -1);
        foundIs(x, 1, 0, 0, 1);
        due("found(-2)", x.found(-2), -1);
        due("found(500)", x.found(500), -1);
        x.brings(1, 1);
        due("the empty one", x.found(-1), 0);
    }

    private static void numbers() {
        OneBell x = told(RING);
        due("numbers(3, 3, 40)", x.numbers(3, 3, 40), 0);
        due("number 39", x.write(3, 39, 7), 7);
        due("numbers(3, 0, 2)", x.numbers(3, 0, 2), 0);
        due("all 0", x.judge(3), -1);
        due("two", x.write(3, 2, 1), -7);
        x.write(3, 1, 9);
        refused(x, "n 41", -3, () -> x.numbers(3, 0, 41));
        refused(x, "n -1", -3, () -> x.numbers(3, 0, -1));
        refused(x, "sort 4", -2, () -> x.numbers(3, 4, 1));
        refused(x, "sort -1", -2, () -> x.numbers(3, -1, 99));
        refused(x, "row 4", -2, () -> x.numbers(4, 0, 1));
        due("the ROW stays", x.judge(3), 1);
        due("in place of another one", x.numbers(3, 0, 2), 0);
        due("all 0 again", x.judge(3), -1);
    }

    private static void write() {
        OneBell x = told(RING);
        due("MISSING", x.write(0, 0, 1), -6);
        long v = 0x123456789abcdef0L;
        long[] cut = {(byte) v, (short) v, (int) v, v};
        for (int sort = 0; sort < 4; sort++) {
            x.numbers(0, sort, 1);
            due("sort " + sort, x.write(0, 0, v), cut[sort]);
            due("-1, sort " + sort, x.write(0, 0, -1), -1);
        }
        x.numbers(0, 0, 1);
        due("256 of 8 bits", x.write(0, 0, 256), 0);
        due("it is a TONE", x.judge(0), -1);
        due("number 1", x.write(0, 1, 1), -7);
        due("number -1", x.write(0, -1, 1), -7);
        due("row 4", x.write(4, 0, 1), -2);
        due("row -1", x.write(-1, 0, 1), -2);
    }

    private static void copy() {
        OneBell x = told(RING);
        refused(x, "nothing, MISSING", -5, () -> x.copy(0));
        refused(x, "row 4, nothing", -2, () -> x.copy(4));
        x.brings(7, -1);
        refused(x, "MISSING", -6, () -> x.copy(0));
        row(x, 0, 0, 0, 0);
        refused(x, "3 places", -7, () -> x.copy(0));
        row(x, 0, 0, 0, 0, 0, 9);
        due("copy(0)", x.copy(0), 4);
        due("the fifth stays", x.judge(0), 4);
        x.write(0, 4, 0);
        due("they come", x.after(0, 7), 4);
        row(x, 1);
        x.brings(1, 1);
        due("the empty one", x.copy(1), 0);
    }

    private static void image() {
        OneBell x = told(RING);
        refused(x, "image(2)", -2, () -> x.image(2));
        refused(x, "image(-1)", -2, () -> x.image(-1));
        x.brings(7, -1);
        refused(x, "image(0)", 0, () -> x.image(0));
        due("image(1) in place of another", x.image(1), 0);
        Texts.tell(x, LONE);
        due("image(1)", x.image(1), 0);
        due("restore(0)", x.restore(0), 0);
        due("ROOMS", x.count(0), 3);
        due("restore(1)", x.restore(1), 0);
        due("ROOMS", x.count(0), 2);
    }

    private static void restore() {
        OneBell x = told(RING);
        refused(x, "none was made", -5, () -> x.restore(1));
        refused(x, "restore(2)", -2, () -> x.restore(2));
        refused(x, "restore(-1)", -2, () -> x.restore(-1));
        x.brings(7, -1);
        row(x, 0, 1);
        String before = state(x);
        x.image(1);
        x.brings(7, 3);
        Texts.tell(x, DOOR);
        row(x, 0, 0, 0);
        x.feed(1, 2, 3, 4, 5);
        due("restore(1)", x.restore(1), 0);
        due("ROWS OF NUMBERS stay", x.where(0, 0, 2), 2);
        due("THE TAPE stays", x.count(6), 20);
        row(x, 0, 1);
        x.house(-1);
        due("FOUND", x.found(-1), 4);
        x.house(0);
        x.restore(1);
        due("all is as it was", before.equals(state(x)) ? 1 : 0, 1);
        x.brings(1, 1);
        due("again", x.restore(1), 0);
        foundIs(x, 1, 0, 0, 1);
        OneBell y = new OneBell();
        y.image(0);
        Texts.tell(y, RING);
        y.brings(7, -1);
        y.restore(0);
        due("no ROOMS", y.count(0), 0);
        due("nothing FOUND", y.found(-1), -1);
    }

    private static void count() {
        OneBell x = told(DOOR);
        x.feed(1, 2, 3, 4, 5);
        long[] dues = {2, 1, 10, 2, 1, 1, 20};
        for (int i = 0; i < 7; i++) {
            due("count(" + i + ")", x.count(i), dues[i]);
        }
        due("count(7)", x.count(7), -1);
        due("count(-1)", x.count(-1), -1);
    }

    private static final Runnable[] PROMISES = {PromisesTest::newObject, PromisesTest::feed, PromisesTest::house,
        PromisesTest::fault, PromisesTest::way, PromisesTest::room, PromisesTest::waiter, PromisesTest::reach,
        PromisesTest::judge, PromisesTest::where, PromisesTest::meeting, PromisesTest::amiss, PromisesTest::sees,
        PromisesTest::after, PromisesTest::brings, PromisesTest::clean, PromisesTest::rank, PromisesTest::meet,
        PromisesTest::never, PromisesTest::paired, PromisesTest::lost, PromisesTest::spare, PromisesTest::mended,
        PromisesTest::kernel, PromisesTest::ways, PromisesTest::doubt, PromisesTest::telling, PromisesTest::byTurns,
        PromisesTest::alike, PromisesTest::classes, PromisesTest::proof, PromisesTest::leads, PromisesTest::deaf,
        PromisesTest::apart, PromisesTest::aparts, PromisesTest::round, PromisesTest::parts, PromisesTest::there,
        PromisesTest::best, PromisesTest::night, PromisesTest::found, PromisesTest::numbers, PromisesTest::write,
        PromisesTest::copy, PromisesTest::image, PromisesTest::restore, PromisesTest::count};

    public static void main(String[] arguments) {
        for (promise = 1; promise <= PROMISES.length; promise++) {
            PROMISES[promise - 1].run();
        }
        due("the promises", PROMISES.length, 47);
        System.out.println(wrong == 0 ? "all promises hold" : wrong + " answers are not as due");
        if (wrong != 0) {
            System.exit(1);
        }
    }
}
