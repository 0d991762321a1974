/** Promises 23 to 25: feed, wipe, park. */
public final class TextTest {
    public static void main(String[] args) {
        feed();
        wipe();
        parkComes();
        parkHolds();
        parkFaults();
        parkFaultsOfSeats();
        parkFull();
        parkOfWholeTape();
        parkSeesNoOlderBytes();
        parkChangesNothingWithFault();
        parkDoesNotCountFaults();
        Check.end();
    }

    private static void feed() {
        WhisperSeats x = new WhisperSeats();
        Check.due("feed(.., 0)", x.feed('a', 0), Check.BEYOND);
        Check.due("feed(.., 5)", x.feed('a', 5), Check.BEYOND);
        Check.due("feed(.., -1)", x.feed('a', -1), Check.BEYOND);
        Check.due("feed 'shx'", x.feed(0x7f000000 | 's' << 16 | 'h' << 8 | 'a', 3), 3);
        Check.due("feed 'm'", x.feed('m', 1), 4);
        Check.due("feed ' 7'", x.feed(0x7f7f0000 | ' ' << 8 | '7', 2), 6);
        Check.due("park()", x.park(), 1);
        Check.due("now(6)", x.now(6), 128);
        for (int i = 1; i <= 29; i++) {
            Check.due("feed four", x.feed(0xffffffff, 4), 4 * i);
        }
        Check.due("feed three", x.feed(0, 3), 119);
        Check.due("feed two, too many", x.feed(0, 2), Check.FULL);
        Check.due("feed four, too many", x.feed(0, 4), Check.FULL);
        Check.due("feed five, too many", x.feed(0, 5), Check.BEYOND);
        Check.due("count(1)", x.count(1), 119);
        Check.due("feed one", x.feed(0, 1), 120);
        Check.due("feed one, too many", x.feed(0, 1), Check.FULL);
        Check.due("park()", x.park(), -1);
        Check.due("count(1)", x.count(1), 0);
    }

    private static void wipe() {
        WhisperSeats x = new WhisperSeats();
        Check.due("wipe() of an empty tape", x.wipe(), 0);
        Check.feed(x, "sham 1");
        Check.due("wipe()", x.wipe(), 6);
        Check.due("count(1)", x.count(1), 0);
        Check.due("wipe() again", x.wipe(), 0);
        Check.due("park() of what is fed then", Check.park(x, "sham 2"), 1);
        Check.due("now(6)", x.now(6), 4);
    }

    private static void parkComes() {
        WhisperSeats x = new WhisperSeats();
        x.person(Check.SPY);
        Check.due("all kinds", Check.park(x, "person;actor;general;wife;lover;spy"), 6);
        for (int i = 0; i < 6; i++) {
            Check.due("kind of " + (i + 1), x.of(i + 1, 0), i);
            Check.due("knows none: " + (i + 1), x.of(i + 1, 1), 0);
            Check.due("nowhere: " + (i + 1), x.of(i + 1, 3), -1);
        }
        Check.due("the tape is empty", x.count(1), 0);
        Check.due("nothing is on it", x.park(), -1);
    }

    private static void parkHolds() {
        WhisperSeats x = new WhisperSeats();
        Check.due("knows and on", Check.park(x, "  spy knows 1 2 9 0on 1;sham3 ; true 4;sham 5;true 5  "), 5);
        int[] due = {5, Check.set(0, 1, 2, 9), 0, 1, 0, 0, 0, 6};
        for (int what = 0; what < due.length; what++) {
            Check.due("of(0, " + what + ")", x.of(0, what), due[what]);
        }
        Check.due("now(6)", x.now(6), Check.set(3));
        Check.due("now(7)", x.now(7), -1);
        Check.due("on without knows", Check.park(x, "wife on 0"), 1);
        Check.due("now(3)", x.now(3), 1);
        Check.due("one secret twice, noughts ahead", Check.park(x, "actor knows 007 7 0"), 1);
        Check.due("of(2, 1)", x.of(2, 1), Check.set(0, 7));
        Check.due("true", Check.park(x, "true 3"), 1);
        Check.due("now(6)", x.now(6), 0);
    }

    private static void parkFaults() {
        String[] texts = {
            "", "   ", "sham", "sham ", "true 1;", "spy knows", "spy knows ", "spy on", "spy knows 1 on ",
            "sham 10", "true 999", "sham 1000", "sham 99999999999999999999", "sham 1 2", "sham on", "sham;",
            "wife knows 1 2 3 4 5", "wife knows 1 10", "wife knows on 1", "wife knows ; spy", "wife 1",
            "wife on 2", "wife on 10", "wife on on", "wife on 0 1", "wife on 0 on 1", "wife on 0 knows 1",
            "wife wife", "wifes", "wif", "spyknows 1", "Person", "person knows -1", "person,spy", "7", ";", ";spy",
            "spy;;spy", "spy knows 1 2 knows 3", "knows 1", "on 1", "sham 1;\tspy", "sham 1 sham 2", "sham1true2",
            "wifez", "berson", "truf 1", "sham 010", "spy on 0;wife on 0", "spy on 0;wife on 1;actor on 1",
        };
        int[] places = {
            0, 3, 4, 5, 7, 9, 10, 6, 15,
            5, 5, 5, 5, 7, 5, 4,
            19, 13, 11, 11, 5,
            8, 8, 8, 10, 10, 10,
            5, 0, 0, 0, 0, 13, 6, 0, 0, 0,
            4, 14, 0, 0, 7, 7, 5,
            0, 0, 0, 5, 17, 28,
        };
        Check.due("as many places as texts", places.length, texts.length);
        for (int i = 0; i < texts.length; i++) {
            WhisperSeats x = new WhisperSeats();
            Check.due("'" + texts[i] + "'", Check.park(x, texts[i]), -1 - places[i]);
            Check.due("people behind '" + texts[i] + "'", x.count(0), 0);
            Check.due("sham ones behind '" + texts[i] + "'", x.now(6), 0);
            Check.due("the tape behind '" + texts[i] + "'", x.count(1), 0);
        }
        WhisperSeats x = new WhisperSeats();
        x.feed(0xe1, 1);
        Check.due("a byte above 127", x.park(), -1);
    }

    private static void parkFaultsOfSeats() {
        WhisperSeats x = new WhisperSeats();
        x.person(0);
        x.sit(0, 1);
        Check.due("a seat that is held", Check.park(x, "spy on 0; wife on 1"), -1 - 18);
        x.sit(0, -1);
        Check.due("both seats", Check.park(x, "spy on 0; wife on 1"), 2);
        Check.due("now(3)", x.now(3), 1);
        Check.due("now(4)", x.now(4), 2);
    }

    private static void parkFull() {
        WhisperSeats x = new WhisperSeats();
        Check.people(x, 0, 0, 0, 0, 0, 0, 0);
        Check.due("a 9th", Check.park(x, "spy knows 1;true 1; wife"), -1 - 20);
        Check.due("count(0)", x.count(0), 7);
        Check.due("an 8th", Check.park(x, "sham 1; spy"), 2);
        Check.due("a 9th", Check.park(x, "spy"), -1);
        Check.due("sham with 8 there", Check.park(x, "true 1"), 1);
    }

    private static void parkOfWholeTape() {
        String[] ends = {"sham 1", "spy", "sham 1 ", "spy knows", "spy;", "sham 1?"};
        int[] due = {1, 1, 1, -121, -121, -120};
        for (int i = 0; i < ends.length; i++) {
            WhisperSeats x = new WhisperSeats();
            Check.feed(x, " ".repeat(120 - ends[i].length()));
            Check.due("120 bytes, '" + ends[i] + "' at the end", Check.park(x, ends[i]), due[i]);
        }
        WhisperSeats x = new WhisperSeats();
        Check.due("as many items as can be", Check.park(x, "sham1;".repeat(20)), -121);
        Check.due("as many items as can be", Check.park(x, "sham1;".repeat(19) + "sham 2"), 20);
    }

    private static void parkSeesNoOlderBytes() {
        String[] older = {"sham 12", "sham 1a", "sham 1;", "sham 1 2"};
        for (String text : older) {
            WhisperSeats x = new WhisperSeats();
            Check.feed(x, text);
            x.wipe();
            Check.due("'sham 1' where '" + text + "' was", Check.park(x, "sham 1"), 1);
            Check.due("now(6)", x.now(6), 2);
            Check.feed(x, "spys");
            x.wipe();
            Check.due("'spy' where 'spys' was", Check.park(x, "spy"), 1);
            Check.due("'sham' where '    ' was", Check.park(x, "        ") + Check.park(x, "sham"), -9 - 5);
        }
    }

    private static void parkChangesNothingWithFault() {
        WhisperSeats x = new WhisperSeats();
        x.sham(3);
        Check.due("a fault at the end", Check.park(x, "spy knows 1 on 0; true 1; sham 5; 6"), -1 - 34);
        Check.due("count(0)", x.count(0), 0);
        Check.due("now(3)", x.now(3), -1);
        Check.due("now(6)", x.now(6), 3);
        Check.due("one more is new", x.person(0), 0);
        Check.due("and knows none", x.of(0, 1), 0);
        Check.due("and is nowhere", x.of(0, 3), -1);
    }

    private static void parkDoesNotCountFaults() {
        WhisperSeats x = new WhisperSeats();
        x.park();
        Check.park(x, "nobody");
        Check.due("status(-1)", x.status(-1), 0);
    }
}
