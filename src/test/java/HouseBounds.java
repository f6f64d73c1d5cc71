/** The boundary cases of the text, of its faults, and of promises 1 to 8. */
final class HouseBounds {
    private static final String TWO = "rooms 2;tones 2;";
    private static final String WIDE = "rooms 14;tones 6;";
    private static final String[] OTHERS = {"lead 0 0;", "chance 0 0 1 5;", "stuck 0 0;", "bar 0;", "two 0;",
        "sign 0 1;", "pantry 0;", "waiter 0;"};

    private HouseBounds() {
    }

    static void all() {
        textLength();
        roomsAndTones();
        leads();
        chances();
        otherLines();
        defaults();
        tokens();
        faults();
        newObject();
        withoutRooms();
        manyCalls();
        feed();
        house();
        fault();
        way();
        room();
        waiter();
        reach();
    }

    private static String blanks(int many) {
        return " ".repeat(many);
    }

    /** A text without a fault has so many lines. */
    private static void fine(String text, int lines) {
        OneBell x = Bounds.told(Bounds.HOUSE);
        x.aparts(0, 1, 2);
        Bounds.due("the LINES of \"" + text + "\"", Texts.tell(x, text), lines);
        Bounds.due("no FAULT in \"" + text + "\"", x.fault(0), 0);
        Bounds.due("no place in \"" + text + "\"", x.fault(1), -1);
        Bounds.due("nothing FOUND behind \"" + text + "\"", x.found(-1), -1);
        Bounds.due("count(2) of \"" + text + "\"", x.count(2), lines);
    }

    /** A text has a fault of a kind at a place, and all but THE TAPE stays. */
    private static void bad(String text, int kind, int place) {
        OneBell x = Bounds.told(Bounds.HOUSE);
        x.aparts(0, 1, 2);
        String before = Bounds.houseOf(x);
        Bounds.due("\"" + text + "\"", Texts.tell(x, text), -30 - kind);
        Bounds.due("the kind in \"" + text + "\"", x.fault(0), kind);
        Bounds.due("the place in \"" + text + "\"", x.fault(1), place);
        Bounds.due("all stays behind \"" + text + "\"", before.equals(Bounds.houseOf(x)) ? 1 : 0, 1);
        Bounds.due("THE TAPE behind \"" + text + "\"", x.count(6), 0);
    }

    /** A line behind a beginning has a fault, whose place is told from the line's first byte on. */
    private static void badLine(String begin, String line, int kind, int place) {
        bad(begin + line, kind, begin.length() + place);
    }

    private static void textLength() {
        Bounds.says(0, "THE HOUSE is a TEXT of at most 600 bytes (without one: no ROOMS)");
        String begin = "rooms 2;tones 1;";
        fine(begin + blanks(600 - 22) + "bar 1;", 3);
        OneBell x = Bounds.told(begin + blanks(600 - 22) + "bar 1;");
        Bounds.due("its last LINE", x.room(1, 1), 1);
        bad(begin + blanks(600 - 21) + "bar 1", 2, 600);
        bad(begin + blanks(600 - 17) + "#", 1, 599);
        fine("rooms2;tones1;" + "bar0;".repeat(117) + " ", 119);
        fine("", 0);
        fine(blanks(600), 0);
        Bounds.due("ROOMS of none", Bounds.told("").count(0), 0);
    }

    private static void roomsAndTones() {
        Bounds.says(0, "rooms 2 to 14, then (ahead of all others) tones 1 to 6: each once.");
        for (int n : new int[] {0, 1, 15, 16, 100, 999}) {
            bad("rooms " + n + ";tones 1;", 3, 6);
        }
        for (int n = 2; n <= 14; n++) {
            fine("rooms " + n + ";tones 1;", 2);
            OneBell x = Bounds.told("rooms " + n + ";tones 1;waiter " + (n - 1) + ";");
            Bounds.due("ROOMS", x.count(0), n);
            Bounds.due("the last ROOM", x.way(n - 1, 0, 0), n - 1);
            Bounds.due("the ROOM beyond", x.way(n, 0, 0), -2);
            badLine("rooms " + n + ";tones 1;", "waiter " + n + ";", 3, 7);
        }
        for (int n : new int[] {0, 7, 8, 100, 999}) {
            badLine("rooms 2;", "tones " + n + ";", 3, 6);
        }
        for (int n = 1; n <= 6; n++) {
            fine("rooms 2;tones " + n + ";", 2);
            OneBell x = Bounds.told("rooms 2;tones " + n + ";stuck 0 " + (n - 1) + ";");
            Bounds.due("TONES", x.count(1), n);
            Bounds.due("the last TONE", x.way(0, n - 1, 0), 0);
            Bounds.due("the TONE beyond", x.way(0, n, 0), -2);
            badLine("rooms 2;tones " + n + ";", "stuck 0 " + n + ";", 3, 8);
        }
        for (String other : OTHERS) {
            bad(other, 2, 0);
            bad(other + TWO, 2, 0);
            badLine("rooms 2;", other + "tones 2;", 2, 0);
        }
        bad("tones 2;rooms 2;", 2, 0);
        badLine(TWO, "rooms 2;", 4, 0);
        badLine(TWO, "tones 2;", 4, 0);
        badLine(TWO + "bar 0;", "rooms", 4, 0);
        badLine(TWO + "bar 0;", "tones", 4, 0);
        badLine("rooms 2;", "rooms 2;tones 2;", 4, 0);
    }

    private static void leads() {
        Bounds.says(0, "lead: from a ROOM, by each TONE in turn, a ROOM (as many as there are TONES;");
        for (int tones = 1; tones <= 6; tones++) {
            String begin = "rooms 14;tones " + tones + ";";
            String line = "lead 13" + " 13".repeat(tones - 1);
            badLine(begin, line + ";", 2, line.length());
            fine(begin + line + " 13;", 3);
            badLine(begin, line + " 13 13;", 2, line.length() + 4);
            badLine(begin, line + " 13 14;", 2, line.length() + 4);
            badLine(begin, line + " 13 1000;", 1, line.length() + 4);
            badLine(begin, line + " 14;", 3, line.length() + 1);
        }
        badLine(TWO, "lead;", 2, 4);
        badLine(TWO, "lead 0;", 2, 6);
        badLine(TWO, "lead 2 0 0;", 3, 5);
        Bounds.says(0, "without it each TONE leads to where one is;");
        OneBell wide = Bounds.told(WIDE);
        for (int r = 0; r < 14; r++) {
            for (int t = 0; t < 6; t++) {
                Bounds.due("ROOM " + r + ", TONE " + t, wide.way(r, t, 0), r);
                Bounds.due("no chance", wide.way(r, t, 1), -1);
                Bounds.due("of a hundred", wide.way(r, t, 2), 0);
            }
        }
        Bounds.says(0, "later ones strike all the ROOM's ways, chances too).");
        OneBell x = Bounds.told("rooms 3;tones 2;lead 0 1 1;chance 0 0 2 1;chance 0 1 2 99;chance 1 0 2 7;"
            + "lead 0 2 0;");
        Bounds.due("the first way", x.way(0, 0, 0), 2);
        Bounds.due("the last way", x.way(0, 1, 0), 0);
        Bounds.due("the first chance", x.way(0, 0, 1), -1);
        Bounds.due("the last chance", x.way(0, 1, 1), -1);
        Bounds.due("the first hundredths", x.way(0, 0, 2), 0);
        Bounds.due("the last hundredths", x.way(0, 1, 2), 0);
        Bounds.due("another ROOM's chance", x.way(1, 0, 2), 7);
        Bounds.due("chances", x.count(5), 1);
        OneBell same = Bounds.told("rooms 2;tones 1;lead 0 1;chance 0 0 0 5;lead 0 1;");
        Bounds.due("the same way once more", same.way(0, 0, 2), 0);
    }

    private static void chances() {
        Bounds.says(0, "chance: in a ROOM, by a TONE, to another ROOM than the TONE leads to as told by then,");
        badLine(TWO, "chance 0 0 0 50;", 3, 11);
        fine(TWO + "chance 0 0 1 50;", 3);
        badLine(TWO, "lead 0 1 0;chance 0 0 1 50;", 3, 22);
        fine(TWO + "lead 0 1 0;chance 0 0 0 50;", 4);
        badLine(TWO, "lead 0 1 0;stuck 0 0;chance 0 0 0 50;", 3, 32);
        fine(TWO + "lead 0 1 0;stuck 0 0;chance 0 0 1 50;", 5);
        badLine(TWO, "chance 0 0 1 50;lead 0 1 0;chance 0 0 1 50;", 3, 38);
        fine(TWO + "chance 0 0 1 50;lead 0 1 0;", 4);
        badLine(TWO, "chance 0 0 0 100;", 3, 11);
        badLine(TWO, "chance 0 0 0;", 3, 11);
        Bounds.says(0, "with 1 to 99 of a hundred (later ones of that ROOM, TONE strike).");
        badLine(TWO, "chance 0 0 1 0;", 3, 13);
        fine(TWO + "chance 0 0 1 1;", 3);
        fine(TWO + "chance 0 0 1 99;", 3);
        badLine(TWO, "chance 0 0 1 100;", 3, 13);
        badLine(TWO, "chance 0 0 1 999;", 3, 13);
        OneBell x = Bounds.told("rooms 3;tones 2;chance 0 0 1 99;chance 0 0 2 1;chance 0 1 1 5;chance 1 0 0 6;");
        Bounds.due("to the later ROOM", x.way(0, 0, 1), 2);
        Bounds.due("with the later hundredths", x.way(0, 0, 2), 1);
        Bounds.due("of another TONE", x.way(0, 1, 2), 5);
        Bounds.due("of another ROOM", x.way(1, 0, 2), 6);
        Bounds.due("chances", x.count(5), 3);
        Bounds.says(0, "stuck: in a ROOM a TONE leads nowhere (to it; its chance is gone).");
        OneBell y = Bounds.told("rooms 2;tones 2;lead 0 1 1;chance 0 0 0 5;chance 0 1 0 6;stuck 0 0;");
        Bounds.due("to it", y.way(0, 0, 0), 0);
        Bounds.due("its chance", y.way(0, 0, 1), -1);
        Bounds.due("its hundredths", y.way(0, 0, 2), 0);
        Bounds.due("the other TONE", y.way(0, 1, 0), 1);
        Bounds.due("the other TONE's chance", y.way(0, 1, 2), 6);
    }

    private static void otherLines() {
        Bounds.says(0, "bar: a ROOM that must not be entered. two: one never for two.");
        Bounds.says(0, "3 an N out of its bounds;");
        for (String word : new String[] {"bar", "two", "pantry", "waiter"}) {
            fine(WIDE + word + " 0;" + word + " 13;", 4);
            badLine(WIDE, word + " 14;", 3, word.length() + 1);
            badLine(WIDE, word + ";", 2, word.length());
            badLine(WIDE, word + " 0 0;", 2, word.length() + 3);
        }
        fine(WIDE + "chance 13 5 0 99;stuck 13 5;sign 13 9;lead 13 13 13 13 13 13 13;", 6);
        badLine(WIDE, "chance 14 0 1 9;", 3, 7);
        badLine(WIDE, "chance 0 6 1 9;", 3, 9);
        badLine(WIDE, "chance 0 0 14 9;", 3, 11);
        badLine(WIDE, "chance 0 0 1;", 2, 12);
        badLine(WIDE, "chance 0 0 1 9 9;", 2, 15);
        badLine(WIDE, "stuck 14 0;", 3, 6);
        badLine(WIDE, "stuck 0 6;", 3, 8);
        badLine(WIDE, "stuck 0;", 2, 7);
        badLine(WIDE, "stuck 0 0 0;", 2, 10);
        badLine(WIDE, "sign 14 0;", 3, 5);
        Bounds.says(0, "sign: in a ROOM 0 to 9 is seen (0 without). pantry: a ROOM (0 without).");
        for (int sign = 0; sign <= 9; sign++) {
            Bounds.due("a sign", Bounds.told(TWO + "sign 1 5;sign 1 " + sign + ";").room(1, 0), sign);
        }
        badLine(TWO, "sign 1 10;", 3, 7);
        badLine(TWO, "sign 1;", 2, 6);
        badLine(TWO, "sign 1 1 1;", 2, 9);
        Bounds.due("no sign", Bounds.told(TWO).room(1, 0), 0);
        Bounds.due("no pantry", Bounds.told(TWO).count(4), 0);
        Bounds.due("the later pantry", Bounds.told(WIDE + "pantry 3;pantry 13;").count(4), 13);
        Bounds.says(0, "waiter: one stands in a ROOM at first, 8 at most, numbered as they come.");
        StringBuilder eight = new StringBuilder(WIDE);
        for (int w = 0; w < 8; w++) {
            eight.append("waiter ").append(13 - w).append(';');
            Bounds.due("waiters", Bounds.told(eight.toString()).count(3), w + 1);
            Bounds.due("the last one", Bounds.told(eight.toString()).waiter(w), 13 - w);
            Bounds.due("one beyond", Bounds.told(eight.toString()).waiter(w + 1), -2);
        }
        badLine(eight.toString(), "waiter 0;", 4, 0);
        badLine(eight.toString(), "waiter 14;", 4, 0);
        badLine(eight.toString(), "waiter", 4, 0);
        fine(eight + "bar 0;", 11);
    }

    /** What an earlier text told, read to its end or not, is in no later house. */
    private static void defaults() {
        String full = "rooms 14;tones 6;lead 1 0 0 0 0 0 0;chance 2 0 1 9;sign 1 9;bar 1;two 1;pantry 1;waiter 1;";
        OneBell x = Bounds.told(full);
        Bounds.due("a FAULT at its end", Texts.tell(x, full.replace("waiter 1;", "waiter 1")), -32);
        Texts.tell(x, WIDE);
        OneBell y = Bounds.told(WIDE);
        Bounds.says(0, "without it each TONE leads to where one is;");
        Bounds.due("the way", x.way(1, 0, 0), 1);
        Bounds.due("the chance", x.way(2, 0, 1), -1);
        Bounds.due("the chances", x.count(5), 0);
        Bounds.says(0, "sign: in a ROOM 0 to 9 is seen (0 without). pantry: a ROOM (0 without).");
        Bounds.due("the sign", x.room(1, 0), 0);
        Bounds.due("the PANTRY", x.count(4), 0);
        Bounds.says(0, "bar: a ROOM that must not be entered. two: one never for two.");
        Bounds.due("not barred", x.room(1, 1), 0);
        Bounds.due("for two", x.room(1, 2), 0);
        Bounds.says(0, "waiter: one stands in a ROOM at first, 8 at most, numbered as they come.");
        Bounds.due("no waiter", x.count(3), 0);
        Bounds.due("all as in a new object", Bounds.houseOf(x).equals(Bounds.houseOf(y)) ? 1 : 0, 1);
    }

    /** Each word with one letter changed, with one less and with one more is no word that is known. */
    private static void words() {
        String[] all = {"rooms", "tones", "lead", "chance", "stuck", "bar", "two", "sign", "pantry", "waiter"};
        String[] lines = {"", "", "lead 0 0 0;", "chance 0 0 1 5;", "stuck 0 0;", "bar 0;", "two 0;", "sign 0 0;",
            "pantry 0;", "waiter 0;"};
        for (int k = 0; k < all.length; k++) {
            String word = all[k];
            String begin = k == 0 ? "" : k == 1 ? "rooms 2;" : TWO;
            String behind = k < 2 ? " 2;" : lines[k].substring(word.length());
            for (int i = 0; i < word.length(); i++) {
                char other = word.charAt(i) == 'x' ? 'y' : 'x';
                badLine(begin, word.substring(0, i) + other + word.substring(i + 1) + behind, 2, 0);
                badLine(begin, word.substring(0, i) + word.substring(i + 1) + behind, 2, 0);
            }
            badLine(begin, word + "s" + behind, 2, 0);
            badLine(begin, word.toUpperCase() + behind, 1, 0);
            if (k >= 2) {
                fine(TWO + lines[k], 3);
            }
        }
    }

    private static void tokens() {
        Bounds.says(0, "TOKENS, as long as they go on, between them blanks (10, 32): words (small letters), "
            + "N (1 to 3 digits), the sign ;.");
        for (int sign = 0; sign < 256; sign++) {
            String text = TWO + (char) sign;
            boolean token = sign >= 'a' && sign <= 'z' || sign >= '0' && sign <= '9' || sign == ';';
            if (sign == 10 || sign == 32) {
                fine(text, 2);
                fine("rooms" + (char) sign + "2;tones" + (char) sign + "2;", 2);
            } else {
                bad(text, token ? 2 : 1, 16);
                behindWord((char) sign, token);
            }
        }
        words();
        fine("\n \n rooms \n2\n;\n\n  tones  \n1 ; \n", 2);
        fine("rooms2;tones2;lead0 1 1;", 3);
        fine("rooms 02;tones 002;bar 000;", 3);
        bad("rooms 0002;", 1, 6);
        bad("rooms 00000000000000000002;", 1, 6);
        bad("rooms 9999999999;", 1, 6);
        bad("roomsx 2;", 2, 0);
        bad("room s 2;", 2, 0);
        bad("rooms 1 4;", 3, 6);
        bad("rooms 2tones 2;", 2, 7);
        bad("rooms 2;tones 2;bar 0bar 1;", 2, 21);
        bad("rooms 2;tones 2;bar 00 0;", 2, 23);
    }

    /** A sign right behind the word rooms and ahead of 2. */
    private static void behindWord(char sign, boolean token) {
        String text = "rooms" + sign + "2;tones 2;";
        if (sign == '0' || sign == '1') {
            fine(text, 2);
        } else if (sign >= '2' && sign <= '9') {
            bad(text, 3, 5);
        } else if (sign >= 'a' && sign <= 'z') {
            bad(text, 2, 0);
        } else {
            bad(text, token ? 2 : 1, 5);
        }
    }

    private static void faults() {
        Bounds.says(0, "FAULTS, the first along the text, of one TOKEN the least kind:");
        bad("rooms 1;#", 3, 6);
        bad("rooms 2;rooms 2;#", 4, 8);
        bad("rooms 2 1000;", 1, 8);
        bad("rooms 2 99;", 2, 8);
        bad("rooms 1 1000;", 3, 6);
        bad("1000", 1, 0);
        badLine(TWO, "sign 2 1000;", 3, 5);
        badLine(TWO, "sign 1 1000;", 1, 7);
        badLine(TWO, "sign 1 9 10;", 2, 9);
        Bounds.says(0, "1 no TOKEN begins so (4 digits and more: at their first).");
        badLine(TWO, "bar 0;1234", 1, 6);
        badLine(TWO, "bar 12345;", 1, 4);
        badLine(TWO, "bar 999;", 3, 4);
        Bounds.says(0, "2 it can't stand there (the end: the text's length;");
        String text = "rooms 2 ; tones 2 ; lead 0 1 1 ; chance 0 0 0 9 ; bar 1 ;";
        int lines = 0;
        for (int n = 1; n <= text.length(); n++) {
            if (n < text.length() && text.charAt(n) != ' ') {
                continue;
            }
            String cut = text.substring(0, n);
            lines += cut.endsWith(";") ? 1 : 0;
            if (cut.endsWith(";") && lines > 1) {
                fine(cut, lines);
                fine(cut + "\n  ", lines);
            } else {
                bad(cut, 2, n);
                bad(cut + " \n ", 2, n + 3);
            }
        }
        Bounds.says(0, "any other LINE ahead of rooms or tones, at its first TOKEN; tones ahead of rooms; "
            + "fewer or more ROOMS behind lead).");
        bad(" waiter 99;", 2, 1);
        bad("rooms 2; waiter 99;", 2, 9);
        bad(" tones 99;", 2, 1);
        badLine(TWO, "lead 0 1 ;", 2, 9);
        badLine(TWO, "lead 0 1 1 1;", 2, 11);
        badLine(TWO, "door 1;", 2, 0);
        badLine(TWO, "1;", 2, 0);
        badLine(TWO, ";", 2, 0);
        Bounds.says(0, "the ROOM of a chance that is where the TONE leads.");
        badLine(TWO, "lead 1 0 1;chance 1 0 0 5;", 3, 22);
        badLine(TWO, "lead 1 0 1;chance 1 1 1 5;", 3, 22);
        Bounds.says(0, "4 the first TOKEN of a second rooms, a second tones, a 9th waiter.");
        badLine(TWO, " rooms 99;", 4, 1);
        badLine(TWO, " tones 99;", 4, 1);
        badLine(TWO + "waiter 1;".repeat(8), " waiter 9999;", 4, 1);
    }

    private static void newObject() {
        Bounds.says(1, "No HOUSE; nothing FOUND.");
        OneBell x = new OneBell();
        for (int i = 0; i < 7; i++) {
            Bounds.due("count(" + i + ")", x.count(i), i == 4 ? -1 : 0);
        }
        Bounds.due("found(-1)", x.found(-1), -1);
        Bounds.due("found(0)", x.found(0), -1);
        Bounds.due("fault(0)", x.fault(0), 0);
        Bounds.due("fault(1)", x.fault(1), -1);
        for (int row = 0; row < 4; row++) {
            Bounds.due("a ROW OF NUMBERS", x.write(row, 0, 0), -6);
        }
        Bounds.due("IMAGE 0", x.restore(0), -5);
        Bounds.due("IMAGE 1", x.restore(1), -5);
    }

    private static void withoutRooms() {
        Bounds.says(0, "(Of several that which the call tells first. Without ROOMS there are no sets, ROOMS, "
            + "waiters.)");
        OneBell x = new OneBell();
        x.numbers(0, 0, 0);
        long[] noSuch = {x.way(0, 0, 0), x.room(0, 0), x.waiter(0), x.reach(0), x.where(0, 0, 0), x.sees(0, 0, 0),
            x.meet(0, 0), x.kernel(0, 0), x.alike(0, 0), x.proof(0, 0), x.leads(3, 0), x.deaf(0, 1, 0),
            x.apart(0, 1, 0), x.aparts(0, 1, 0), x.round(0, 0, 0), x.parts(0, 0, 0), x.night(0, 0, 0)};
        for (int i = 0; i < noSuch.length; i++) {
            Bounds.due("call " + i + " of a ROOM or waiter", noSuch[i], -2);
        }
        for (int set : new int[] {0, 1, 2, 3, -1}) {
            long[] cannotBe = {x.after(0, set), x.brings(set, -1), x.clean(set, -1), x.paired(set), x.lost(set),
                x.doubt(0, set, false), x.telling(set, false), x.byTurns(set)};
            for (int i = 0; i < cannotBe.length; i++) {
                Bounds.due("call " + i + " of the set " + set, cannotBe[i], -3);
            }
        }
        long[] notNow = {x.judge(0), x.rank(), x.spare(), x.mended(0), x.ways(0), x.there(0), x.best(0), x.copy(0)};
        for (int i = 0; i < notNow.length; i++) {
            Bounds.due("call " + i + " of none", notNow[i], -5);
        }
        long[] none = {x.never(), x.meeting(0, 0), x.amiss(0, 0), x.found(-1), x.count(4)};
        for (int i = 0; i < none.length; i++) {
            Bounds.due("call " + i + " that finds none", none[i], -1);
        }
    }

    private static void manyCalls() {
        Bounds.says(0, "An object is used for at most 512 calls after it has been made;");
        OneBell x = new OneBell();
        int calls = 0;
        for (int from = 0; from < Bounds.HOUSE.length(); from += 20) {
            int[] five = Texts.five(Bounds.HOUSE, from);
            x.feed(five[0], five[1], five[2], five[3], five[4]);
            calls++;
        }
        Bounds.due("the LINES", x.house(Bounds.HOUSE.length()), 13);
        for (calls++; calls < 511; calls++) {
            Bounds.due("call " + calls, calls % 2 == 0 ? x.lost(7) : x.brings(3, -1), calls % 2 == 0 ? -1 : 1);
        }
        Bounds.due("call 512", x.brings(2, -1), 0);
    }

    /** A tape of so many times twenty bytes, and a house, FOUND, rows beside it. */
    private static OneBell taped(int feeds) {
        OneBell x = Bounds.standard();
        for (int i = 1; i < feeds; i++) {
            int[] five = Texts.five(i == 29 ? "              bar 1;" : "", 0);
            x.feed(five[0], five[1], five[2], five[3], five[4]);
        }
        return x;
    }

    private static void feed() {
        Bounds.says(2, "Twenty bytes come behind those on THE TAPE, the highest of each int first: how many it has.");
        OneBell x = new OneBell();
        for (int i = 1; i <= 30; i++) {
            Bounds.due("feed " + i, x.feed(0x20202020, 0x20202020, 0x20202020, 0x20202020, 0x20202020), 20 * i);
            Bounds.due("count(6)", x.count(6), 20 * i);
        }
        OneBell y = new OneBell();
        y.feed(0x726f6f6d, 0x7320323b, 0x746f6e65, 0x7320313b, 0x626172ff);
        Bounds.due("the last byte, 255", y.house(20), -31);
        Bounds.due("its place", y.fault(1), 19);
        y.feed(0x80202020, -1, -1, -1, -1);
        Bounds.due("the first byte, 128", y.house(1), -31);
        y.feed(0, 0, 0, 0, 0);
        Bounds.due("the first byte, 0", y.house(1), -31);
        Bounds.says(2, "-5: it would have more than 600.");
        Bounds.due("600", taped(29).feed(1, 2, 3, 4, 5), 600);
        Bounds.refused(() -> taped(30), "620", -5, z -> z.feed(1, 2, 3, 4, 5));
        OneBell full = taped(30);
        full.feed(1, 2, 3, 4, 5);
        Bounds.due("all 600 bytes", full.house(600), 3);
        Bounds.due("empty then", full.feed(1, 2, 3, 4, 5), 20);
    }

    private static void house() {
        Bounds.says(3, "The first n bytes of THE TAPE (which is empty then) are THE HOUSE, nothing is FOUND: "
            + "how many LINES (all stays with a FAULT).");
        OneBell x = Bounds.standard();
        Bounds.due("n 16 of 20", x.house(16), 2);
        Bounds.due("THE TAPE", x.count(6), 0);
        Bounds.due("FOUND", x.found(-1), -1);
        Bounds.due("TONES", x.count(1), 3);
        OneBell all = Bounds.standard();
        Bounds.due("n 20 of 20", all.house(20), 2);
        OneBell none = Bounds.standard();
        Bounds.due("n 0", none.house(0), 0);
        Bounds.due("ROOMS of 0 bytes", none.count(0), 0);
        Bounds.due("FOUND of 0 bytes", none.found(-1), -1);
        Bounds.due("THE TAPE of 0 bytes", none.count(6), 0);
        Bounds.due("n 0 of none", none.house(0), 0);
        OneBell cut = Bounds.standard();
        String before = Bounds.houseOf(cut);
        Bounds.due("n 15 of 20", cut.house(15), -32);
        Bounds.due("THE TAPE with a FAULT", cut.count(6), 0);
        Bounds.due("all stays", before.equals(Bounds.houseOf(cut)) ? 1 : 0, 1);
        Bounds.due("the IMAGE stays", cut.restore(0), 0);
        Bounds.due("the ROW stays", cut.write(3, 9, 0), -7);
        Bounds.says(3, "-3: n is below 0 or above what there is (THE TAPE stays);");
        Bounds.refusedAll(Bounds::standard, "n", -3, (y, n) -> y.house(n), -1, 21, 600, 601, Integer.MIN_VALUE,
            Integer.MAX_VALUE);
        Bounds.refusedAll(OneBell::new, "n", -3, (y, n) -> y.house(n), -1, 1);
        Bounds.due("THE TAPE stays", afterRefused(21).count(6), 20);
        Bounds.due("it is read", afterRefused(-1).house(20), 2);
        Bounds.says(3, "-30 less the FAULT (the end of a text that tells rooms and no tones: 2).");
        bad("rooms 2;", 2, 8);
        bad("rooms 2;\n", 2, 9);
        bad("#", 1, 0);
        bad("rooms 0;", 3, 6);
        bad("rooms 2;tones 1;tones 1;", 4, 16);
    }

    private static OneBell afterRefused(int n) {
        OneBell x = Bounds.standard();
        x.house(n);
        return x;
    }

    private static void fault() {
        Bounds.says(4, "Of the latest house() that was read, what 0: its FAULT (0), 1: its place (NONE). NONE "
            + "for others.");
        OneBell x = Bounds.standard();
        for (int what : new int[] {-1, 2, 3, Integer.MIN_VALUE, Integer.MAX_VALUE}) {
            Bounds.refused(Bounds::standard, "fault(" + what + ")", -1, y -> y.fault(what));
        }
        Bounds.due("its FAULT", x.fault(0), 3);
        Bounds.due("its place", x.fault(1), 6);
        x.house(21);
        Bounds.due("one that wasn't read", x.fault(0), 3);
        x.restore(0);
        Bounds.due("behind an IMAGE", x.fault(0), 3);
        x.house(16);
        Bounds.due("without a FAULT", x.fault(0), 0);
        Bounds.due("without a place", x.fault(1), -1);
        x.house(-1);
        Bounds.due("still without", x.fault(0), 0);
    }

    private static OneBell wide() {
        return Bounds.told(WIDE + "lead 13 0 1 2 3 4 5;chance 13 5 6 99;sign 13 9;bar 13;two 13;waiter 13;");
    }

    private static void way() {
        Bounds.says(5, "Of a ROOM and a TONE, what 0: the ROOM to which it leads, 1: that by chance (NONE), "
            + "2: of how many of a hundred (0). -2.");
        OneBell x = wide();
        Bounds.due("the last", x.way(13, 5, 0), 5);
        Bounds.due("the last by chance", x.way(13, 5, 1), 6);
        Bounds.due("the last of a hundred", x.way(13, 5, 2), 99);
        Bounds.due("no chance", x.way(13, 4, 1), -1);
        Bounds.due("of none", x.way(13, 4, 2), 0);
        Bounds.due("beyond the ROOMS", x.way(14, 5, 0), -2);
        Bounds.due("beyond the TONES", x.way(13, 6, 0), -2);
        Bounds.refusedAll(Bounds::standard, "room", -2, (y, n) -> y.way(n, 0, 0), -1, 3, 14, Integer.MIN_VALUE,
            Integer.MAX_VALUE);
        Bounds.refusedAll(Bounds::standard, "tone", -2, (y, n) -> y.way(0, n, 0), -1, 2, 6, Integer.MIN_VALUE,
            Integer.MAX_VALUE);
        Bounds.refusedAll(Bounds::standard, "what", -2, (y, n) -> y.way(0, 0, n), -1, 3, Integer.MIN_VALUE,
            Integer.MAX_VALUE);
        Bounds.refused(Bounds::bare, "no ROOMS", -2, y -> y.way(0, 0, 0));
    }

    private static void room() {
        Bounds.says(6, "Of a ROOM, what 0: its sign, 1: 1 barred, 2: 1 never for two (else 0). -2.");
        OneBell x = wide();
        Bounds.due("the last sign", x.room(13, 0), 9);
        Bounds.due("barred", x.room(13, 1), 1);
        Bounds.due("never for two", x.room(13, 2), 1);
        for (int what = 0; what < 3; what++) {
            Bounds.due("else", x.room(12, what), 0);
        }
        Bounds.due("beyond the ROOMS", x.room(14, 0), -2);
        Bounds.refusedAll(Bounds::standard, "room", -2, (y, n) -> y.room(n, 0), -1, 3, 14, Integer.MIN_VALUE,
            Integer.MAX_VALUE);
        Bounds.refusedAll(Bounds::standard, "what", -2, (y, n) -> y.room(0, n), -1, 3, Integer.MIN_VALUE,
            Integer.MAX_VALUE);
        Bounds.refused(Bounds::bare, "no ROOMS", -2, y -> y.room(0, 0));
    }

    private static void waiter() {
        Bounds.says(7, "Where a waiter stands at first. -2.");
        Bounds.due("the only one", wide().waiter(0), 13);
        Bounds.refusedAll(Bounds::standard, "waiter", -2, (y, n) -> y.waiter(n), -1, 3, 8, Integer.MIN_VALUE,
            Integer.MAX_VALUE);
        Bounds.refused(Bounds::bare, "no waiters", -2, y -> y.waiter(0));
    }

    private static void reach() {
        Bounds.says(8, "ROOMS that one can come to from a ROOM (by MAY), itself, too. -2.");
        Bounds.due("itself alone", wide().reach(0), 1);
        Bounds.due("the last", wide().reach(13), 1 << 13 | 127);
        Bounds.due("beyond the ROOMS", wide().reach(14), -2);
        // room 13 leads to 12, 12 to 11 ..: against the order in which rooms are looked at
        StringBuilder chain = new StringBuilder("rooms 14;tones 1;");
        for (int r = 1; r < 14; r++) {
            chain.append("lead ").append(r).append(' ').append(r - 1).append(';');
        }
        Bounds.due("all", Bounds.told(chain.toString()).reach(13), 16383);
        Bounds.due("by chance alone", Bounds.told("rooms 2;tones 1;chance 0 0 1 1;").reach(0), 3);
        Bounds.refusedAll(Bounds::standard, "room", -2, (y, n) -> y.reach(n), -1, 3, 14, Integer.MIN_VALUE,
            Integer.MAX_VALUE);
        Bounds.refused(Bounds::bare, "no ROOMS", -2, y -> y.reach(0));
    }
}
