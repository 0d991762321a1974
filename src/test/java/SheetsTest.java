/** Promises 26 to 31: sheet, write, copy, lays, book, read. */
public final class SheetsTest {
    public static void main(String[] args) {
        sheet();
        write();
        copy();
        copyFindings();
        lays();
        book();
        read();
        readOwnKind();
        readFindings();
        Check.end();
    }

    private static void sheet() {
        WhisperSeats x = new WhisperSeats();
        Check.due("sheet(0, 8, 40)", x.sheet(0, 8, 40), 40);
        Check.due("sheet(3, 64, 0)", x.sheet(3, 64, 0), 0);
        x.write(0, 39, 5);
        Check.due("sheet(0, 16, 40) anew", x.sheet(0, 16, 40), 40);
        Check.due("all 0", x.write(0, 39, 7), 0);
        Check.due("sheet(0, 0, 40)", x.sheet(0, 0, 40), 0);
        Check.due("MISSING then", x.write(0, 0, 1), Check.MISSING);
        Check.due("sheet(0, 16, 40) again", x.sheet(0, 16, 40), 40);
        Check.due("all 0", x.write(0, 39, 7), 0);
        Check.due("sheet(4, 8, -1)", x.sheet(4, 8, -1), Check.BEYOND);
        Check.due("sheet(-1, 8, 1)", x.sheet(-1, 8, 1), Check.BEYOND);
        Check.due("sheet(0, 32, -1)", x.sheet(0, 32, -1), Check.BEYOND);
        Check.due("sheet(0, -8, 1)", x.sheet(0, -8, 1), Check.BEYOND);
        Check.due("sheet(0, 8, -1)", x.sheet(0, 8, -1), Check.SIZE);
        Check.due("sheet(0, 0, -1)", x.sheet(0, 0, -1), Check.SIZE);
        Check.due("sheet(0, 64, 41)", x.sheet(0, 64, 41), Check.BEYOND);
        Check.due("sheet(0, 0, 41)", x.sheet(0, 0, 41), Check.BEYOND);
        Check.due("as it was", x.write(0, 39, 7), 7);
        Check.due("status(6)", x.status(6), 2);
    }

    private static void write() {
        WhisperSeats x = new WhisperSeats();
        int[] bits = {8, 16, 64};
        long[] values = {0, 1, 127, 128, 255, 256, 32767, 32768, 65535, 1L << 40 | 3, -1, Long.MIN_VALUE, -1000000001L};
        for (int b : bits) {
            x.sheet(1, b, 2);
            for (long v : values) {
                x.write(1, 1, v);
                long due = b == 8 ? (byte) v : b == 16 ? (short) v : v;
                Check.due("number " + v + " of " + b + " bits", x.write(1, 1, 0), due);
            }
            Check.due("its neighbour", x.write(1, 0, 0), 0);
        }
        Check.due("a number isn't a finding", x.status(-1), 0);
        Check.due("write(1, 2, 1)", x.write(1, 2, 1), Check.BEYOND);
        Check.due("write(1, -1, 1)", x.write(1, -1, 1), Check.BEYOND);
        Check.due("write(4, 0, 1)", x.write(4, 0, 1), Check.BEYOND);
        Check.due("write(-1, 0, 1)", x.write(-1, 0, 1), Check.BEYOND);
        Check.due("write(2, 99, 1)", x.write(2, 99, 1), Check.MISSING);
        Check.due("status(5)", x.status(5), 1);
    }

    private static void row(WhisperSeats x, int s, long... numbers) {
        for (int i = 0; i < numbers.length; i++) {
            x.write(s, i, numbers[i]);
        }
    }

    private static void dueRow(WhisperSeats x, String call, int s, long... numbers) {
        for (int i = 0; i < numbers.length; i++) {
            long got = x.write(s, i, 0);
            x.write(s, i, got);
            Check.due(call + ": number " + i, got, numbers[i]);
        }
    }

    private static void copy() {
        WhisperSeats x = new WhisperSeats();
        x.sheet(0, 16, 5);
        x.sheet(1, 16, 4);
        row(x, 0, 1, 2, 3, 4, 5);
        Check.due("copy(0, 1, 1, 0, 4)", x.copy(0, 1, 1, 0, 4), 4);
        dueRow(x, "copied", 1, 2, 3, 4, 5);
        Check.due("copy(0, 0, 0, 1, 4), onto itself", x.copy(0, 0, 0, 1, 4), 4);
        dueRow(x, "behind itself", 0, 1, 1, 2, 3, 4);
        row(x, 0, 1, 2, 3, 4, 5);
        Check.due("copy(0, 2, 0, 0, 3), onto itself", x.copy(0, 2, 0, 0, 3), 3);
        dueRow(x, "ahead of itself", 0, 3, 4, 5, 4, 5);
        Check.due("copy(0, 5, 1, 4, 0)", x.copy(0, 5, 1, 4, 0), 0);
    }

    private static void copyFindings() {
        WhisperSeats x = new WhisperSeats();
        x.sheet(0, 16, 5);
        x.sheet(1, 16, 4);
        x.sheet(2, 8, 4);
        row(x, 0, 1, 2, 3, 4, 5);
        Check.due("copy(4, ..)", x.copy(4, 0, 3, 0, 1), Check.BEYOND);
        Check.due("copy(.., 4, ..)", x.copy(3, 0, 4, 0, 1), Check.BEYOND);
        Check.due("copy(-1, ..)", x.copy(-1, 0, 0, 0, 1), Check.BEYOND);
        Check.due("copy(.., -1, ..)", x.copy(0, 0, -1, 0, 1), Check.BEYOND);
        Check.due("copy from a missing one", x.copy(3, -1, 0, 0, 1), Check.MISSING);
        Check.due("copy to a missing one", x.copy(0, 0, 3, 0, 99), Check.MISSING);
        Check.due("copy of other bits", x.copy(0, -1, 2, 0, 99), Check.KIND);
        Check.due("copy from -1", x.copy(0, -1, 1, 0, 1), Check.BEYOND);
        Check.due("copy to -1", x.copy(0, 0, 1, -1, 1), Check.BEYOND);
        Check.due("copy of -1", x.copy(0, 0, 1, 0, -1), Check.BEYOND);
        Check.due("copy from too few", x.copy(0, 4, 1, 0, 2), Check.BEYOND);
        Check.due("copy to too few", x.copy(0, 0, 1, 0, 5), Check.BEYOND);
        Check.due("copy from behind the end", x.copy(0, 6, 1, 0, 0), Check.BEYOND);
        Check.due("copy of ever so many", x.copy(0, 1, 1, 1, Integer.MAX_VALUE), Check.BEYOND);
        Check.due("copy from ever so far", x.copy(0, Integer.MAX_VALUE, 1, 1, 1), Check.BEYOND);
        dueRow(x, "nothing copied", 1, 0, 0, 0, 0);
    }

    private static void lays() {
        WhisperSeats x = new WhisperSeats();
        Check.people(x, 0, 0, 0, 0);
        for (int i = 0; i < 4; i++) {
            x.set(i, 1, 7);
            x.set(i, 2, 6);
        }
        Check.due("lays of a missing one", x.lays(0), Check.MISSING);
        Check.due("lays(4)", x.lays(4), Check.BEYOND);
        Check.due("lays(-1)", x.lays(-1), Check.BEYOND);
        x.sheet(0, 64, 6);
        row(x, 0, 1023, -1, 1024, 2, 5, 5);
        Check.due("lays(0)", x.lays(0), 2);
        int[] known = {1023, 7, 7, 2};
        int[] believed = {6, 6, 6, 2};
        for (int i = 0; i < 4; i++) {
            Check.due("known to " + i, x.of(i, 1), known[i]);
            Check.due("believed by " + i, x.of(i, 2), believed[i]);
        }
        x.sheet(1, 64, 1);
        x.write(1, 0, 1L << 32);
        Check.due("lays of a number past an int", x.lays(1), 0);
        x.sheet(1, 8, 0);
        Check.due("lays of none", x.lays(1), 0);
        x.sheet(1, 8, 2);
        Check.due("lays of noughts", x.lays(1), 2);
        Check.due("known to 0", x.of(0, 1), 0);
    }

    /** A person on seat 0 and an actor on seat 1 that talk for three hours on a Tuesday. */
    private static WhisperSeats talkers() {
        return Check.pair(Check.PERSON, Check.set(0), Check.ACTOR, Check.set(8));
    }

    private static void book() {
        WhisperSeats x = talkers();
        x.sheet(0, 16, 3);
        Check.due("book(0, 0)", x.book(0, 0), 3);
        dueRow(x, "book of the person", 0, 1, 257, 257);
        x.sheet(0, 8, 3);
        Check.due("book(0, 1)", x.book(0, 1), 3);
        dueRow(x, "book of the actor, its lowest bits", 0, 0, 1, 1);
        x.sheet(0, 64, 40);
        Check.due("book(0, 1)", x.book(0, 1), 40);
        Check.due("nothing changes", x.now(0), 24);
        x.sit(1, -1);
        x.sheet(0, 16, 3);
        x.book(0, 0);
        dueRow(x, "book of the person, the actor coming in an hour", 0, 1, 1, 257);
        Check.due("book(1, 9)", x.book(1, 9), Check.MISSING);
        Check.due("book(4, 0)", x.book(4, 0), Check.BEYOND);
        Check.due("book(-1, 0)", x.book(-1, 0), Check.BEYOND);
        Check.due("book(0, 2)", x.book(0, 2), Check.BEYOND);
        Check.due("book(0, -1)", x.book(0, -1), Check.BEYOND);
        x.sheet(1, 8, 0);
        Check.due("book of none", x.book(1, 0), 0);
    }

    private static void read() {
        // Over there, at hour 0 of a Tuesday, a person, an actor, a general and a spy say 8; a wife and a lover don't.
        WhisperSeats x = talkers();
        x.sheet(0, 16, 2);
        row(x, 0, 1, 257);
        Check.due("8 is heard", x.read(0, 0, 1), 24);
        row(x, 0, 1, 1);
        Check.due("8 isn't heard", x.read(0, 0, 1), 12);
        row(x, 0, 2, 1);
        Check.due("it knew another one", x.read(0, 0, 1), 0);
        // At hour 12 the lover says it, and a wife alone doesn't.
        x.hours(12);
        x.sit(0, -1);
        x.sit(1, -1);
        x.set(0, 1, 1);
        x.set(1, 1, 256);
        x.sit(0, 0);
        x.sit(1, 1);
        row(x, 0, 1, 257);
        Check.due("8 is heard at noon", x.read(0, 0, 1), 30);
        Check.due("kinds stay", x.of(0, 0) * 10 + x.of(1, 0), 1);
        Check.due("nothing changes", x.now(0), 36);
        x.sheet(1, 64, 0);
        Check.due("nothing told fits all", x.read(1, 1, 0), 36);
        x.sheet(1, 8, 1);
        x.set(0, 1, 255);
        x.write(1, 0, 255);
        Check.due("a number below 0 is no set", x.read(1, 0, 1), 0);
    }

    private static void readOwnKind() {
        // Only a general tells a person the sham one in the first hour, and hears it in the second.
        WhisperSeats x = Check.tuesday(Check.PERSON, Check.ACTOR);
        x.sham(Check.set(0));
        x.set(1, 1, Check.set(4));
        x.sit(0, 0);
        x.sit(1, 1);
        x.sheet(0, 16, 3);
        row(x, 0, 0, Check.set(4), Check.set(0, 4));
        Check.due("a general and a person", x.read(0, 0, 1), 1);
        row(x, 0, 0, 0, 0);
        Check.due("a wife or a lover over there, and anybody here", x.read(0, 0, 1), 12);
    }

    private static void readFindings() {
        WhisperSeats x = talkers();
        x.sheet(0, 16, 2);
        Check.due("read(4, 0, 1)", x.read(4, 0, 1), Check.BEYOND);
        Check.due("read(-1, 0, 1)", x.read(-1, 0, 1), Check.BEYOND);
        Check.due("read(1, 0, 0)", x.read(1, 0, 0), Check.MISSING);
        Check.due("read(0, 0, 0)", x.read(0, 0, 0), Check.BEYOND);
        Check.due("read(0, 2, 0)", x.read(0, 2, 0), Check.BEYOND);
        Check.due("read(0, 0, 2)", x.read(0, 0, 2), Check.BEYOND);
        Check.due("read(0, -1, 0)", x.read(0, -1, 0), Check.BEYOND);
        Check.due("read(0, 0, -1)", x.read(0, 0, -1), Check.BEYOND);
    }
}
