/** Promises 32 to 36: image, undo, tear, count, status. */
public final class ImagesTest {
    public static void main(String[] args) {
        imageKeepsAll();
        imageKeepsLatest();
        tear();
        count();
        status();
        findingsChangeNothing();
        Check.end();
    }

    private static void imageKeepsAll() {
        WhisperSeats x = Check.tuesday(Check.WIFE, Check.ACTOR);
        x.set(0, 1, 7);
        x.set(0, 2, 3);
        x.set(0, 5, 11);
        x.sham(9);
        x.hours(2);
        Check.feed(x, "spy");
        x.sheet(2, 8, 2);
        Check.due("image()", x.image(), 1);
        int[] of = new int[8];
        int[] now = new int[8];
        for (int what = 0; what < 8; what++) {
            of[what] = x.of(0, what);
            now[what] = x.now(what);
        }
        x.sham(1);
        x.set(0, 1, 64);
        x.turn(0, Check.GENERAL);
        x.set(0, 5, 99);
        x.hours(50);
        x.sit(0, -1);
        x.park();
        Check.feed(x, "wi");
        x.write(2, 0, 5);
        Check.due("three there", x.count(0), 3);
        Check.due("undo()", x.undo(), 2);
        for (int what = 0; what < 8; what++) {
            Check.due("undone: of(0, " + what + ")", x.of(0, what), of[what]);
            Check.due("undone: now(" + what + ")", x.now(what), now[what]);
        }
        Check.due("of(2, 0)", x.of(2, 0), Check.BEYOND);
        Check.due("the tape stays", x.count(1), 2);
        Check.due("sheets stay", x.write(2, 0, 0), 5);
        Check.due("a third is new", x.person(Check.LOVER), 2);
        Check.due("and knows none", x.of(2, 1), 0);
        x.set(2, 1, 3);
        x.set(2, 2, 1);
        x.set(2, 5, 8);
        int heard = x.count(2);
        int believed = x.count(3);
        x.undo();
        Check.due("count(2) without the third", x.count(2), heard - 8);
        Check.due("count(3) without the third", x.count(3), believed - 1);
        x.person(Check.PERSON);
        int[] unknown = {0, 0, 0, -1, 0, 0};
        for (int what = 0; what < unknown.length; what++) {
            Check.due("another third is new, too: of(2, " + what + ")", x.of(2, what), unknown[what]);
        }
    }

    private static void imageKeepsLatest() {
        WhisperSeats x = new WhisperSeats();
        Check.due("undo() of nothing", x.undo(), Check.NONE);
        x.image();
        x.person(0);
        Check.due("image() again", x.image(), 1);
        x.person(0);
        x.person(0);
        Check.due("undo()", x.undo(), 1);
        x.person(0);
        x.set(0, 1, 5);
        Check.due("undo() again: it stays", x.undo(), 1);
        Check.due("of(0, 1)", x.of(0, 1), 0);
        Check.due("status(3): undo takes none back", x.status(3), 1);
    }

    private static void tear() {
        WhisperSeats x = new WhisperSeats();
        Check.due("tear() of nothing", x.tear(), 0);
        x.image();
        x.image();
        Check.due("tear()", x.tear(), 1);
        Check.due("tear() again", x.tear(), 0);
        Check.due("undo()", x.undo(), Check.NONE);
        x.person(0);
        x.image();
        Check.due("undo() of a newer one", x.undo(), 1);
    }

    private static void count() {
        WhisperSeats x = new WhisperSeats();
        Check.people(x, 0, 1, 2);
        for (int i = 0; i < 3; i++) {
            x.set(i, 1, 15);
            x.set(i, 2, 7 >> i);
            x.set(i, 5, 9999);
        }
        Check.feed(x, "sham ");
        int[] due = {3, 5, 29997, 6};
        for (int what = 0; what < due.length; what++) {
            Check.due("count(" + what + ")", x.count(what), due[what]);
        }
        Check.people(x, 0, 0, 0, 0, 0);
        x.set(7, 1, 1);
        x.set(7, 2, 1);
        x.set(7, 5, 1);
        Check.due("count(2) of eight", x.count(2), 29998);
        Check.due("count(3) of eight", x.count(3), 7);
        Check.due("confide(7, 60) of eight", x.confide(7, 60) >= 1 ? 1 : 0, 1);
        Check.due("count(-1)", x.count(-1), Check.BEYOND);
        Check.due("count(4)", x.count(4), Check.BEYOND);
    }

    private static void status() {
        WhisperSeats x = new WhisperSeats();
        x.image();
        for (int i = 0; i < 8; i++) {
            x.person(0);
        }
        x.person(9);
        x.person(9);
        x.person(0);
        x.as(0, 1);
        x.as(0, 2);
        x.as(0, 3);
        x.confide(9, 9);
        x.forget(0, 1);
        x.sit(0, 0);
        x.sit(1, 0);
        x.write(0, 0, 0);
        x.write(0, 0, 0);
        x.sheet(0, 8, -1);
        int[] due = {3, 1, 3, 1, 1, 2, 1};
        x.undo();
        for (int which = 0; which < due.length; which++) {
            Check.due("status(" + which + ")", x.status(which), due[which]);
        }
        Check.due("status(-1)", x.status(-1), 12);
        Check.due("status(7)", x.status(7), Check.BEYOND);
        Check.due("status(-2)", x.status(-2), Check.BEYOND);
        Check.due("counted from then on", x.status(0), 5);
        Check.due("counted from then on, too", x.status(-1), 14);
    }

    private static void findingsChangeNothing() {
        WhisperSeats x = Check.tuesday(0, 0);
        x.hours(3);
        x.person(7);
        x.sham(-4);
        x.set(0, 1, 2000);
        x.turn(0, 8);
        x.sit(0, 5);
        x.sit(0, 1);
        x.hours(0);
        x.feed(0, 9);
        Check.due("count(0)", x.count(0), 2);
        Check.due("count(1)", x.count(1), 0);
        Check.due("now(0)", x.now(0), 27);
        Check.due("now(3)", x.now(3), 0);
        Check.due("of(0, 4)", x.of(0, 4), 2);
        Check.due("now(6)", x.now(6), 0);
        Check.due("status(-1)", x.status(-1), 8);
    }
}
