/** Promises 17 to 22: kind, forget, confide, enough, doubt, wisest. */
public final class BestTest {
    public static void main(String[] args) {
        kind();
        forget();
        forgetBeliefToo();
        confide();
        confideIsBelieved();
        enough();
        enoughWhereHeardIsHeld();
        doubt();
        doubtOfShamOne();
        wisest();
        Check.end();
    }

    private static void nothingChanged(WhisperSeats x, int known) {
        Check.due("nothing changed: HOUR", x.now(0), 24);
        Check.due("nothing changed: HEARD", x.count(2), 0);
        Check.due("nothing changed: known", x.of(0, 1), known);
        Check.due("nothing changed: seat", x.of(0, 3), 0);
    }

    private static void kind() {
        // Only as a general does one tell the other the sham secret, and hear it again.
        WhisperSeats x = Check.pair(Check.PERSON, 0, Check.PERSON, Check.set(4));
        x.sham(Check.set(0));
        Check.due("kind(0, 1), all alike", x.kind(0, 1), Check.PERSON);
        Check.due("kind(0, 2)", x.kind(0, 2), Check.GENERAL);
        Check.due("of(0, 0)", x.of(0, 0), Check.PERSON);
        nothingChanged(x, 0);
        x.turn(0, Check.SPY);
        Check.due("kind(0, 2), being a spy", x.kind(0, 2), Check.GENERAL);
        Check.due("kind(0, 100)", x.kind(0, 100), Check.GENERAL);
        Check.due("kind(0, 0)", x.kind(0, 0), Check.BEYOND);
        Check.due("kind(0, 101)", x.kind(0, 101), Check.BEYOND);
        Check.due("kind(2, 1)", x.kind(2, 1), Check.BEYOND);
        Check.due("kind(-1, 1)", x.kind(-1, 1), Check.BEYOND);
    }

    private static void forget() {
        // The lover stays a fifth hour if it is told a fourth secret; that is 2, told once 9 is forgotten.
        WhisperSeats x = Check.pair(Check.GENERAL, Check.set(2, 9), Check.LOVER, Check.set(0, 1, 9));
        x.set(0, 2, Check.set(9));
        Check.due("forget(0, 4), all alike", x.forget(0, 4), 2);
        Check.due("forget(0, 5)", x.forget(0, 5), 9);
        nothingChanged(x, Check.set(2, 9));
        Check.due("believes still", x.of(0, 2), Check.set(9));
        Check.due("forget(0, 60)", x.forget(0, 60) >= 0 ? 1 : 0, 1);
        Check.due("forget(0, 0)", x.forget(0, 0), Check.BEYOND);
        Check.due("forget(0, 61)", x.forget(0, 61), Check.BEYOND);
        Check.due("forget(2, 1)", x.forget(2, 1), Check.BEYOND);
        Check.due("forget(-1, 1)", x.forget(-1, 1), Check.BEYOND);
        x.set(0, 1, 0);
        Check.due("forget(0, 5), knowing none", x.forget(0, 5), Check.NONE);
        Check.due("forget(0, 61), knowing none", x.forget(0, 61), Check.BEYOND);
        x.set(0, 1, 512);
        Check.due("forget(0, 5), knowing one", x.forget(0, 5), 9);
    }

    private static void forgetBeliefToo() {
        // What is believed is said ahead of what is known, but not when it is forgotten.
        WhisperSeats x = Check.pair(Check.GENERAL, Check.set(2, 3, 9), Check.LOVER, Check.set(0, 1, 9));
        x.set(0, 2, Check.set(9));
        Check.due("forget(0, 5), one believed of three", x.forget(0, 5), 9);
    }

    private static void confide() {
        WhisperSeats x = Check.pair(Check.ACTOR, Check.set(5), Check.PERSON, 0);
        Check.due("confide(0, 1) to an actor", x.confide(0, 1), 6);
        nothingChanged(x, Check.set(5));
        x.set(1, 1, Check.set(3));
        Check.due("confide(0, 1), 3 being known over there", x.confide(0, 1), 3);
        Check.due("confide(0, 0)", x.confide(0, 0), Check.BEYOND);
        Check.due("confide(0, 61)", x.confide(0, 61), Check.BEYOND);
        Check.due("confide(2, 1)", x.confide(2, 1), Check.BEYOND);
        Check.due("confide(-1, 1)", x.confide(-1, 1), Check.BEYOND);
        x.set(0, 1, 1023);
        Check.due("confide(0, 60), knowing all", x.confide(0, 60), Check.NONE);
        Check.due("confide(0, 61), knowing all", x.confide(0, 61), Check.BEYOND);
        x.set(0, 1, 511);
        Check.due("confide(0, 60), knowing all but one", x.confide(0, 60), 9);
    }

    private static void confideIsBelieved() {
        WhisperSeats x = Check.pair(Check.PERSON, Check.set(0), Check.WIFE, Check.set(5));
        Check.due("confide(0, 1) to a person", x.confide(0, 1), 1);
        x.set(0, 1, Check.set(5));
        x.set(1, 1, 0);
        Check.due("confide(0, 1) to a person that knows 5", x.confide(0, 1), 0);
        WhisperSeats y = Check.pair(Check.WIFE, Check.set(7), Check.WIFE, Check.set(6));
        Check.due("confide(1, 1), 7 being known to another one", y.confide(1, 1), 7);
    }

    private static void enough() {
        WhisperSeats x = Check.pair(Check.PERSON, Check.set(1), Check.ACTOR, Check.set(5));
        x.set(0, 5, 40);
        Check.due("enough(0, 1)", x.enough(0, 1), 1);
        Check.due("enough(0, 3)", x.enough(0, 3), 3);
        Check.due("enough(0, 4), when both have come again", x.enough(0, 4), 6);
        Check.due("enough(0, 0)", x.enough(0, 0), Check.BEYOND);
        Check.due("enough(0, 100)", x.enough(0, 100), Check.BEYOND);
        Check.due("enough(2, 1)", x.enough(2, 1), Check.BEYOND);
        Check.due("enough(-1, 1)", x.enough(-1, 1), Check.BEYOND);
        Check.due("nothing changes", x.now(0), 24);
        WhisperSeats y = Check.pair(Check.WIFE, Check.set(1), Check.WIFE, Check.set(5));
        Check.due("enough(0, 1) among wives", y.enough(0, 1), Check.NONE);
        Check.due("enough(0, 99) among wives", y.enough(0, 99), Check.NONE);
    }

    private static void enoughWhereHeardIsHeld() {
        WhisperSeats x = Check.pair(Check.PERSON, Check.set(1), Check.ACTOR, Check.set(5));
        x.set(0, 5, 9998);
        Check.due("enough(0, 1)", x.enough(0, 1), 1);
        Check.due("enough(0, 2), HEARD being held", x.enough(0, 2), Check.NONE);
    }

    private static void doubt() {
        // A sham one that is said over there isn't believed any more by one that knows three.
        WhisperSeats x = Check.pair(Check.PERSON, Check.set(0, 1, 2), Check.GENERAL, 0);
        x.set(0, 2, Check.set(0, 1, 2));
        Check.due("doubt(1)", x.doubt(1), 3);
        Check.due("nothing changes", x.now(6), 0);
        Check.due("nothing changes", x.now(0), 24);
        Check.due("nothing changes", x.count(3), 3);
        Check.due("doubt(0)", x.doubt(0), Check.BEYOND);
        Check.due("doubt(61)", x.doubt(61), Check.BEYOND);
        Check.due("doubt(60)", x.doubt(60) >= 0 ? 1 : 0, 1);
    }

    private static void doubtOfShamOne() {
        WhisperSeats x = Check.pair(Check.ACTOR, Check.set(5), Check.SPY, 0);
        x.sham(Check.set(5));
        Check.due("doubt(1), a sham one made true", x.doubt(1), 5);
        WhisperSeats y = Check.pair(Check.ACTOR, Check.set(0), Check.SPY, Check.set(1));
        y.set(1, 2, Check.set(1));
        y.sham(Check.set(0));
        Check.due("doubt(1), 0 made true", y.doubt(1), 0);
        WhisperSeats z = new WhisperSeats();
        Check.due("doubt(60) of nobody", z.doubt(60), 0);
    }

    private static void wisest() {
        WhisperSeats x = Check.tuesday(Check.PERSON, Check.WIFE, Check.PERSON);
        x.set(0, 1, Check.set(0));
        x.set(1, 1, Check.set(1, 2));
        x.set(2, 1, Check.set(4, 5));
        Check.due("wisest(0), the least of two", x.wisest(0), 1);
        x.sit(0, 0);
        x.sit(2, 1);
        Check.due("wisest(1)", x.wisest(1), 2);
        x.set(2, 1, Check.set(4));
        Check.due("wisest(1), all knowing two", x.wisest(1), 0);
        Check.due("wisest(-1)", x.wisest(-1), Check.BEYOND);
        Check.due("wisest(201)", x.wisest(201), Check.BEYOND);
        Check.due("wisest(200)", x.wisest(200) >= 0 ? 1 : 0, 1);
        Check.due("nothing changes", x.now(0), 24);
        WhisperSeats y = new WhisperSeats();
        Check.due("wisest(200) of nobody", y.wisest(200), Check.NONE);
        Check.due("wisest(201) of nobody", y.wisest(201), Check.BEYOND);
    }
}
