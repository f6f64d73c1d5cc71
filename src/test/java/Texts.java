import java.util.Random;

/** Texts of houses: how they are fed, and how some are made by chance. */
public final class Texts {
    private static final String[] WORDS = {"rooms", "tones", "lead", "chance", "stuck", "bar", "two", "sign",
        "pantry", "waiter", "door", "roomss", "a"};

    private Texts() {
    }

    /** The five ints that bear twenty bytes of a text from a place on, blanks behind its end. */
    public static int[] five(String text, int from) {
        int[] ints = new int[5];
        for (int i = 0; i < 20; i++) {
            int sign = from + i < text.length() ? text.charAt(from + i) & 255 : 32;
            ints[i / 4] |= sign << 24 - i % 4 * 8;
        }
        return ints;
    }

    /** Feeds a text and has it read. */
    public static int tell(OneBell x, String text) {
        for (int from = 0; from < text.length(); from += 20) {
            int[] ints = five(text, from);
            x.feed(ints[0], ints[1], ints[2], ints[3], ints[4]);
        }
        return x.house(text.length());
    }

    /** A house without a fault. */
    public static String house(Random random, int mostRooms, int mostTones) {
        int rooms = 2 + random.nextInt(mostRooms - 1);
        int tones = 1 + random.nextInt(mostTones);
        int[][] way = new int[rooms][tones];
        StringBuilder text = new StringBuilder("rooms " + rooms + ";tones " + tones + ";");
        int shape = random.nextInt(4);
        for (int r = 0; r < rooms; r++) {
            java.util.Arrays.fill(way[r], r);
            if (random.nextInt(12) > 0) {
                text.append("lead ").append(r);
                for (int t = 0; t < tones; t++) {
                    way[r][t] = shape(random, shape, r, t, rooms);
                    text.append(' ').append(way[r][t]);
                }
                text.append(';');
            }
        }
        int extras = random.nextInt(14);
        int chances = random.nextInt(4);
        int waiters = random.nextInt(5);
        for (int i = 0; i < waiters; i++) {
            text.append("waiter ").append(random.nextInt(rooms)).append(';');
        }
        for (int i = 0; i < extras; i++) {
            int r = random.nextInt(rooms);
            int t = random.nextInt(tones);
            String line = "";
            switch (random.nextInt(9)) {
                case 0:
                    int to = (way[r][t] + 1 + random.nextInt(rooms - 1)) % rooms;
                    line = chances-- > 0 ? "chance " + r + " " + t + " " + to + " " + (1 + random.nextInt(99)) : "";
                    break;
                case 1:
                    line = random.nextInt(3) == 0 ? "stuck " + r + " " + t : "";
                    way[r][t] = line.isEmpty() ? way[r][t] : r;
                    break;
                case 2:
                    line = "bar " + r;
                    break;
                case 3:
                    line = "two " + r;
                    break;
                case 4:
                case 5:
                    line = "sign " + r + " " + random.nextInt(random.nextBoolean() ? 10 : 2);
                    break;
                case 6:
                    line = "pantry " + r;
                    break;
                default:
                    line = waiters++ < 8 ? "waiter " + r : "";
                    break;
            }
            text.append(line.isEmpty() ? "" : line + ";");
        }
        return text.length() <= 600 ? text.toString() : "rooms 2;tones 1;";
    }

    /** Rings with few short cuts make long rows, ways by chance alone make short ones. */
    private static int shape(Random random, int shape, int r, int t, int rooms) {
        int round = (r + 1) % rooms;
        switch (shape) {
            case 0:
                return t == 0 ? round : r == rooms - 1 ? random.nextInt(rooms) : r;
            case 1:
                return random.nextInt(3) > 0 ? (r + t + 1) % rooms : random.nextInt(rooms);
            case 2:
                return random.nextInt(8) == 0 ? random.nextInt(rooms) : t % 2 == 0 ? round : r;
            default:
                return random.nextInt(rooms);
        }
    }

    /** A text that has a fault, mostly. */
    public static String bent(Random random) {
        StringBuilder text = new StringBuilder(house(random, 1 + 1 + random.nextInt(4), 2));
        int bends = 1 + random.nextInt(2);
        for (int i = 0; i < bends && text.length() > 0; i++) {
            int at = random.nextInt(text.length());
            switch (random.nextInt(7)) {
                case 0:
                    text.deleteCharAt(at);
                    break;
                case 1:
                    text.insert(at, (char) random.nextInt(256));
                    break;
                case 2:
                    text.setCharAt(at, "; 0123456789az\n".charAt(random.nextInt(15)));
                    break;
                case 3:
                    text.insert(at, random.nextInt(1200));
                    break;
                case 4:
                    text.insert(text.indexOf(";", at) + 1, WORDS[random.nextInt(WORDS.length)]);
                    break;
                case 5:
                    text.setLength(at);
                    break;
                default:
                    text.insert(text.indexOf(";", at) + 1, line(random));
                    break;
            }
        }
        if (text.length() > 600) {
            text.setLength(600);
        }
        return text.toString();
    }

    private static String line(Random random) {
        StringBuilder line = new StringBuilder(WORDS[random.nextInt(WORDS.length)]);
        int numbers = random.nextInt(5);
        for (int i = 0; i < numbers; i++) {
            line.append(' ').append(random.nextInt(random.nextBoolean() ? 3 : 20));
        }
        return line.append(';').toString();
    }
}
