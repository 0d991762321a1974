/** Promises 32 to 36, a test for each sentence. */
public final class SentencesOfImagesTest {
    private static final int[] EXTREMES = {Integer.MIN_VALUE, Integer.MAX_VALUE};

    public static void main(String[] args) {
        image();
        undo();
        tear();
        count();
        status();
        Doc.end();
    }

    /** Changes all that an image keeps, and the tape and a sheet, which it doesn't. */
    private static void changeAll(WhisperSeats x) {
        x.sham(1);
        x.turn(0, Check.WIFE);
        x.set(1, 1, 1023);
        x.set(1, 2, 1023);
        x.set(2, 5, 9999);
        x.sit(3, -1);
        x.sit(0, 1);
        x.person(Check.GENERAL);
        x.hours(77);
    }

    private static void image() {
        Doc.part("Promise 32");
        Doc.says("All that section 1 tells (THE TAPE not) is kept: 1.");
        WhisperSeats x = Whole.rich();
        WhisperSeats twin = Whole.rich();
        twin.image();
        Check.due("image()", x.image(), 1);
        changeAll(x);
        x.undo();
        Check.due("all is as it was", Whole.of(x).equals(Whole.of(twin)) ? 1 : 0, 1);
        WhisperSeats y = Whole.rich();
        y.image();
        y.wipe();
        Check.feed(y, "ab");
        y.write(0, 1, 9);
        y.sheet(3, 8, 2);
        y.undo();
        Check.due("THE TAPE isn't kept", y.count(1), 2);
        Check.due("nor are numbers", y.write(0, 1, 0), 9);
        Check.due("nor are sheets", y.write(3, 1, 0), 0);
        Check.due("image() of nobody", new WhisperSeats().image(), 1);
        Whole.changes("image()", z -> z.image(), 1, "image=other");
        hoursGoOnAlike();
    }

    /** Hours that one has sat, and who came last, are kept too: what comes is the same again. */
    private static void hoursGoOnAlike() {
        for (int seed = 0; seed < 20; seed++) {
            WhisperSeats x = Parks.later(seed, 30);
            x.image();
            x.hours(50);
            x.sham(0);
            x.undo();
            WhisperSeats twin = Parks.later(seed, 30);
            twin.image();
            Check.due("seed " + seed + ": 90 hours", x.hours(90), twin.hours(90));
            Check.due("seed " + seed + ": as a whole", Whole.of(x).equals(Whole.of(twin)) ? 1 : 0, 1);
        }
    }

    private static void undo() {
        Doc.part("Promise 33");
        Doc.says("It becomes what was kept latest (which stays): how many PEOPLE.");
        WhisperSeats x = new WhisperSeats();
        x.image();
        Check.people(x, 0, 0, 0, 0, 0, 0, 0, 0);
        Check.due("to nobody", x.undo(), 0);
        Check.due("nobody is there", x.count(0) + x.now(5), 0);
        Check.due("the next is number 0", x.person(Check.SPY), 0);
        Check.people(x, 0, 0, 0, 0, 0, 0, 0);
        x.set(7, 1, 1023);
        x.image();
        Check.due("to nobody no more: the latest", x.undo(), 8);
        x.set(7, 1, 0);
        Check.due("it stays", x.undo(), 8);
        Check.due("known to 7", x.of(7, 1), 1023);
        x.hours(100);
        Check.due("and stays", x.undo(), 8);
        Check.due("HOUR", x.now(0), 0);
        Check.due("known to 7", x.of(7, 1), 1023);
        Whole.changes("undo()", z -> z.undo(), 5, "count(2)=1", "count(3)=2", "now(0)=26", "now(1)=2", "now(3)=0", "now(4)=1",
            "now(7)=1", "of(0, 3)=0", "of(0, 4)=1", "of(1, 3)=1", "of(1, 4)=1", "of(1, 5)=1", "of(2, 1)=8", "of(2, 2)=0",
            "of(2, 5)=0", "of(3, 3)=-1", "of(3, 4)=0", "of(3, 5)=0", "of(4, 0)=3", "of(4, 3)=-1", "of(4, 7)=6");
        Doc.says("NONE: nothing is kept.");
        WhisperSeats y = new WhisperSeats();
        y.person(0);
        Check.due("a new object", y.undo(), Check.NONE);
        y.image();
        y.tear();
        Check.due("torn", y.undo(), Check.NONE);
        Check.due("one is there still", y.count(0), 1);
    }

    private static void tear() {
        Doc.part("Promise 34");
        Doc.says("Nothing is kept: 1 if something was, else 0.");
        WhisperSeats x = new WhisperSeats();
        Check.due("nothing was", x.tear(), 0);
        x.image();
        x.person(0);
        x.image();
        Check.due("something was", x.tear(), 1);
        Check.due("nothing is, though two were made", x.tear(), 0);
        Check.due("undo()", x.undo(), Check.NONE);
        Check.due("one is there still", x.count(0), 1);
        x.image();
        x.undo();
        Check.due("undo() leaves it", x.tear(), 1);
        Whole.changes("tear()", y -> y.tear(), 1, "image=none");
    }

    private static void count() {
        Doc.part("Promise 35");
        Doc.says("0 PEOPLE, 1 bytes of THE TAPE, 2 HEARD of all together, 3 SECRETS that are BELIEVED, counted by PEOPLE, each.");
        WhisperSeats x = new WhisperSeats();
        dueCount("a new one", x, 0, 0, 0, 0);
        Check.people(x, 0, 1, 2, 3, 4, 5, 0, 1);
        for (int i = 0; i < 8; i++) {
            x.set(i, 1, 1023);
            x.set(i, 2, 1023);
            x.set(i, 5, 9999);
        }
        Check.feed(x, " ".repeat(120));
        dueCount("as much as can be", x, 8, 120, 79992, 80);
        x.set(7, 2, 0);
        x.set(7, 5, 0);
        x.set(6, 1, 512);
        dueCount("the last one none, another one 9 alone", x, 8, 120, 69993, 61);
        Doc.says("BEYOND: another what.");
        Check.due("count(-1)", x.count(-1), Check.BEYOND);
        Check.due("count(4)", x.count(4), Check.BEYOND);
        for (int what : EXTREMES) {
            Check.due("count(" + what + ")", x.count(what), Check.BEYOND);
        }
    }

    private static void dueCount(String when, WhisperSeats x, int... due) {
        for (int what = 0; what < 4; what++) {
            Check.due(when + ": count(" + what + ")", x.count(what), due[what]);
        }
    }

    private static void status() {
        Doc.part("Promise 36");
        Doc.says("How many acts answered a finding ever (undo() takes none back): which -1: all, 0 to 6: BEYOND to SIZE.");
        WhisperSeats x = new WhisperSeats();
        dueStatus("a new one", x, 0, 0, 0, 0, 0, 0, 0);
        Check.people(x, 0, 0, 0, 0, 0, 0, 0, 0);
        x.sit(0, 0);
        x.image();
        dueStatus("acts without a finding", x, 0, 0, 0, 0, 0, 0, 0);
        x.sheet(0, 8, -1);
        dueStatus("SIZE", x, 0, 0, 0, 0, 0, 0, 1);
        x.write(0, 0, 0);
        dueStatus("MISSING, in a long", x, 0, 0, 0, 0, 0, 1, 1);
        x.sit(1, 0);
        dueStatus("STATE", x, 0, 0, 0, 0, 1, 1, 1);
        x.forget(0, 1);
        dueStatus("NONE", x, 0, 0, 0, 1, 1, 1, 1);
        x.as(0, 1);
        dueStatus("KIND", x, 0, 0, 1, 1, 1, 1, 1);
        x.person(0);
        dueStatus("FULL", x, 0, 1, 1, 1, 1, 1, 1);
        x.write(4, 0, 0);
        dueStatus("BEYOND, in a long", x, 1, 1, 1, 1, 1, 1, 1);
        x.undo();
        dueStatus("undo() takes none back", x, 1, 1, 1, 1, 1, 1, 1);
        x.tear();
        x.undo();
        x.park();
        dueStatus("undo() of nothing, and a FAULT, which is none", x, 1, 1, 1, 2, 1, 1, 1);
        Doc.says("BEYOND (counted from then on): another one.");
        Check.due("status(-2)", x.status(-2), Check.BEYOND);
        Check.due("status(0)", x.status(0), 2);
        Check.due("status(7)", x.status(7), Check.BEYOND);
        Check.due("status(0) again", x.status(0), 3);
        for (int which : EXTREMES) {
            Check.due("status(" + which + ")", x.status(which), Check.BEYOND);
        }
        dueStatus("all four counted", x, 5, 1, 1, 2, 1, 1, 1);
    }

    private static void dueStatus(String when, WhisperSeats x, int... due) {
        int all = 0;
        for (int which = 0; which < 7; which++) {
            Check.due(when + ": status(" + which + ")", x.status(which), due[which]);
            all += due[which];
        }
        Check.due(when + ": status(-1)", x.status(-1), all);
    }
}
