/** What the project's tests share: a count of wrong answers, and texts for the tape. */
final class Checks {
    private static int made;
    private static int wrong;

    private Checks() {
    }

    static void due(String call, long got, long want) {
        made++;
        if (got != want) {
            wrong++;
            System.out.println(call + " answered " + got + ", due is " + want);
        }
    }

    static void isSo(String what, boolean so) {
        due(what, so ? 1 : 0, 1);
    }

    static void end(String name) {
        System.out.println(name + ": " + made + " checks, " + wrong + " wrong");
        if (wrong != 0 || made == 0) {
            System.exit(1);
        }
    }

    /** Puts a text of at most 400 bytes on an empty tape. */
    static void write(CribbageRoom room, String text) {
        byte[] bytes = new byte[text.length()];
        for (int i = 0; i < bytes.length; i++) {
            bytes[i] = (byte) text.charAt(i);
        }
        write(room, bytes);
    }

    static void write(CribbageRoom room, byte[] bytes) {
        for (int from = 0; from < bytes.length; from += 20) {
            room.feed(four(bytes, from), four(bytes, from + 4), four(bytes, from + 8), four(bytes, from + 12), four(bytes, from + 16));
        }
        room.end(bytes.length);
    }

    private static int four(byte[] bytes, int from) {
        int number = 0;
        for (int i = from; i < from + 4; i++) {
            number = number << 8 | (i < bytes.length ? bytes[i] & 255 : ' ');
        }
        return number;
    }

    /** A row of bytes, behind what the tape has. */
    static int row(CribbageRoom room, int... bytes) {
        byte[] row = new byte[bytes.length];
        for (int i = 0; i < bytes.length; i++) {
            row[i] = (byte) bytes[i];
        }
        write(room, row);
        return room.row();
    }

    static int law(CribbageRoom room, String text) {
        write(room, text);
        return room.law();
    }

    static int orders(CribbageRoom room, String text) {
        write(room, text);
        return room.orders();
    }

    /** Makes a law and puts it in force. */
    static void rule(CribbageRoom room, String text) {
        due("law " + text + " in force", room.force(law(room, text)) >= -1 ? room.status() : -99, 0);
    }

    /** Seed 5: PLAYER 0 deals; its hand is 0 7 8 10 13 21, the other one's 9 15 23 24 45 46, the starter 14. */
    static CribbageRoom dealt() {
        CribbageRoom room = new CribbageRoom();
        room.deal(5);
        return room;
    }

    /** What is dealt by seed 5 laid away: 0 and 21, 45 and 46. */
    static void layAll(CribbageRoom room) {
        room.lay(45, 1);
        room.lay(46, 1);
        room.lay(0, 0);
        room.lay(21, 0);
    }

    static CribbageRoom laid() {
        CribbageRoom room = dealt();
        layAll(room);
        return room;
    }

    static void hold(CribbageRoom room, int... cards) {
        room.drop();
        for (int card : cards) {
            room.hold(card);
        }
    }
}
