/** Promises 23 to 25, a test for each sentence. */
public final class SentencesOfTextTest {
    public static void main(String[] args) {
        feed();
        wipe();
        park();
        parkWithFault();
        Doc.end();
    }

    private static void feed() {
        Doc.part("Promise 23");
        Doc.says("THE TAPE gets the n lowest bytes of a number behind it, the highest of these first (n 1 to 4): how many it has.");
        WhisperSeats x = new WhisperSeats();
        Check.due("four", x.feed('s' << 24 | 'h' << 16 | 'a' << 8 | 'm', 4), 4);
        Check.due("the lowest of four", x.feed('x' << 24 | 'x' << 16 | 'x' << 8 | ' ', 1), 5);
        Check.due("the lowest two", x.feed('x' << 24 | 'x' << 16 | '9' << 8 | ';', 2), 7);
        Check.due("the lowest three", x.feed('x' << 24 | 's' << 16 | 'p' << 8 | 'y', 3), 10);
        Check.due("two items", x.park(), 2);
        Check.due("now(6)", x.now(6), Check.set(9));
        Check.due("of(0, 0)", x.of(0, 0), Check.SPY);
        byBytesOfHighestBit();
        Check.due("from an empty tape on", x.feed(-1, 4), 4);
        for (int has = 8; has <= 120; has += 4) {
            Check.due("up to " + has, x.feed(-1, 4), has);
        }
        Whole.changes("feed(';', 1)", y -> y.feed(';', 1), 19, "count(1)=19", "text=-20");
        Doc.says("BEYOND: n.");
        int[] wrong = {0, -1, 5, 8, Integer.MIN_VALUE, Integer.MAX_VALUE};
        for (int n : wrong) {
            Check.due("full, feed(0, " + n + ")", x.feed(0, n), Check.BEYOND);
            Check.due("empty, feed(0, " + n + ")", new WhisperSeats().feed(0, n), Check.BEYOND);
        }
        Check.due("count(1)", x.count(1), 120);
        Doc.says("FULL.");
        for (int n = 1; n <= 4; n++) {
            Check.due("at 120, feed(0, " + n + ")", x.feed(0, n), Check.FULL);
        }
        for (int room = 1; room <= 4; room++) {
            fillButFor(room);
        }
    }

    /** A byte above 127 stays one byte, and no token. */
    private static void byBytesOfHighestBit() {
        WhisperSeats x = new WhisperSeats();
        Check.due("four bytes of 255", x.feed(-1, 4), 4);
        Check.due("a fault at once", x.park(), -1);
        Check.due("a byte of 's' and 128", x.feed('s' | 128, 1), 1);
        x.feed('p' << 8 | 'y', 2);
        Check.due("it is no 's'", x.park(), -1);
        Check.due("a blank and 255", x.feed(0x20ff, 2), 2);
        Check.due("the fault is at 255", x.park(), -2);
    }

    private static void fillButFor(int room) {
        WhisperSeats x = new WhisperSeats();
        for (int i = 0; i < 120 - room; i++) {
            x.feed(' ', 1);
        }
        for (int n = room + 1; n <= 4; n++) {
            Check.due("room for " + room + ", fed " + n, x.feed(0, n), Check.FULL);
        }
        Check.due("room for " + room + ", count(1)", x.count(1), 120 - room);
        Check.due("room for " + room + ", fed as many", x.feed(0, room), 120);
    }

    private static void wipe() {
        Doc.part("Promise 24");
        Doc.says("THE TAPE is empty: how many it had.");
        WhisperSeats x = new WhisperSeats();
        Check.due("an empty one", x.wipe(), 0);
        Check.feed(x, "z".repeat(120));
        Check.due("a full one", x.wipe(), 120);
        Check.due("count(1)", x.count(1), 0);
        Check.due("again", x.wipe(), 0);
        Check.due("fed anew", x.feed('s' << 16 | 'p' << 8 | 'y', 3), 3);
        Check.due("nothing of the old one is left", x.park(), 1);
        Check.due("no finding", x.status(-1), 0);
        Whole.changes("wipe()", y -> y.wipe(), 18, "count(1)=0", "text=-1");
    }

    private static void park() {
        Doc.part("Promise 25");
        Doc.says("THE TAPE is THE TEXT of a PARK, whose ITEMS come to what there is, and empty then: how many ITEMS.");
        WhisperSeats x = Check.tuesday(Check.GENERAL, Check.WIFE);
        x.set(0, 1, 6);
        x.set(0, 5, 4);
        x.sham(Check.set(1, 2));
        x.sit(0, 0);
        x.hours(1);
        x.sit(1, -1);
        Check.due("three items", Check.park(x, "spy knows 9 on 1;true 1;sham 3"), 3);
        Check.due("THE TAPE", x.count(1), 0);
        int[][] due = {{2, 6, 0, 0, 1, 4}, {3, 0, 0, -1, 0, 0}, {5, 512, 0, 1, 0, 0}};
        for (int i = 0; i < 3; i++) {
            for (int what = 0; what < 6; what++) {
                Check.due("of(" + i + ", " + what + ")", x.of(i, what), due[i][what]);
            }
        }
        Check.due("SHAM", x.now(6), Check.set(2, 3));
        Check.due("HOUR", x.now(0), 25);
        Check.due("WHO CAME LAST", x.now(7), 1);
        Check.due("two more items", Check.park(x, "spy;sham 1"), 2);
        Check.due("the fourth", x.of(3, 0), Check.SPY);
        Whole.changes("park() of two items", y -> y.park(), 2, "now(6)=164", "count(0)=6", "count(1)=0", "text=-1",
            "of(5, 0)=5", "of(5, 1)=8", "of(5, 2)=0", "of(5, 3)=-1", "of(5, 4)=0", "of(5, 5)=0", "of(5, 6)=-1", "of(5, 7)=6");
        Whole.changes("park() of one item", SentencesOfTextTest::oneItem, 1, "now(6)=128", "of(3, 6)=7", "count(1)=0", "text=-1");
        WhisperSeats many = new WhisperSeats();
        Check.due("twenty items", Check.park(many, "sham0;".repeat(18) + "sham 3;true0"), 20);
        Check.due("they came", many.now(6), Check.set(3));
    }

    private static int oneItem(WhisperSeats x) {
        x.wipe();
        return Check.park(x, "true 2");
    }

    private static void parkWithFault() {
        Doc.says("With a FAULT: -1 less its place (nothing changes but that THE TAPE is empty; no finding).");
        WhisperSeats x = new WhisperSeats();
        Check.due("an empty tape: place 0", x.park(), -1);
        Check.due("place 119", Check.park(x, " ".repeat(119) + "?"), -120);
        Check.due("place 120", Check.park(x, " ".repeat(120)), -121);
        Check.due("no finding", x.status(-1), 0);
        String[] texts = {"", "spy knows 1;sham 1;true 2;", "true 2;wife;sham 10", "sham 0;person;actor;lover;spy"};
        int[] answers = {-1, -27, -18, -27};
        for (int i = 0; i < texts.length; i++) {
            WhisperSeats changed = Whole.rich();
            WhisperSeats twin = Whole.rich();
            changed.wipe();
            twin.wipe();
            Check.due("'" + texts[i] + "'", Check.park(changed, texts[i]), answers[i]);
            Check.due("'" + texts[i] + "', then count(1)", changed.count(1), 0);
            Check.due("'" + texts[i] + "', then status(-1)", changed.status(-1), 0);
            Check.due("'" + texts[i] + "' changes nothing", Whole.of(changed).equals(Whole.of(twin)) ? 1 : 0, 1);
        }
    }
}
