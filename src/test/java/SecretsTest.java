/** Promises 1 to 3: a new object, sham, who. */
public final class SecretsTest {
    public static void main(String[] args) {
        newObject();
        sham();
        who();
        Check.end();
    }

    private static void newObject() {
        WhisperSeats x = new WhisperSeats();
        int[] now = {0, 0, 1, -1, -1, 0, 0, -1};
        for (int what = 0; what < now.length; what++) {
            Check.due("new: now(" + what + ")", x.now(what), now[what]);
        }
        for (int what = 0; what < 4; what++) {
            Check.due("new: count(" + what + ")", x.count(what), 0);
        }
        for (int which = -1; which < 7; which++) {
            Check.due("new: status(" + which + ")", x.status(which), 0);
        }
        Check.due("new: of(0, 0)", x.of(0, 0), Check.BEYOND);
        Check.due("new: tear()", x.tear(), 0);
        Check.due("new: undo()", x.undo(), Check.NONE);
        for (int s = 0; s < 4; s++) {
            Check.due("new: write(" + s + ", 0, 1)", x.write(s, 0, 1), Check.MISSING);
        }
        x.person(Check.ACTOR);
        WhisperSeats y = new WhisperSeats();
        Check.due("another object: count(0)", y.count(0), 0);
        Check.due("another object: status(-1)", y.status(-1), 0);
    }

    private static void sham() {
        WhisperSeats x = new WhisperSeats();
        Check.due("sham(1023)", x.sham(1023), 0);
        Check.due("sham(5)", x.sham(5), 1023);
        Check.due("sham(-1)", x.sham(-1), Check.BEYOND);
        Check.due("sham(1024)", x.sham(1024), Check.BEYOND);
        Check.due("sham(min)", x.sham(Integer.MIN_VALUE), Check.BEYOND);
        Check.due("now(6)", x.now(6), 5);
        Check.due("sham(0)", x.sham(0), 5);
        Check.due("now(6)", x.now(6), 0);
    }

    private static void who() {
        WhisperSeats x = new WhisperSeats();
        Check.due("who(0, 0) of nobody", x.who(0, 0), 0);
        for (int i = 0; i < 8; i++) {
            x.person(Check.PERSON);
        }
        x.set(0, 1, Check.set(0, 9));
        x.set(3, 1, Check.set(9));
        x.set(7, 1, Check.set(0, 9));
        x.set(7, 2, Check.set(9));
        Check.due("who(0, 0)", x.who(0, 0), 1 + 128);
        Check.due("who(9, 0)", x.who(9, 0), 1 + 8 + 128);
        Check.due("who(9, 1)", x.who(9, 1), 128);
        Check.due("who(0, 1)", x.who(0, 1), 0);
        Check.due("who(5, 0)", x.who(5, 0), 0);
        Check.due("who(-1, 0)", x.who(-1, 0), Check.BEYOND);
        Check.due("who(10, 1)", x.who(10, 1), Check.BEYOND);
        Check.due("who(0, -1)", x.who(0, -1), Check.BEYOND);
        Check.due("who(0, 2)", x.who(0, 2), Check.BEYOND);
        Check.due("status(0)", x.status(0), 4);
    }
}
