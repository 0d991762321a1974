/** Promises 4 to 10: person, of, set, turn, as, sit, trusts. */
public final class PeopleTest {
    public static void main(String[] args) {
        person();
        ofNewOne();
        ofSays();
        ofSaysByHour();
        ofStays();
        setKnown();
        setBelievedAndHeard();
        turn();
        as();
        sit();
        trusts();
        Check.end();
    }

    private static void person() {
        WhisperSeats x = new WhisperSeats();
        Check.due("person(-1)", x.person(-1), Check.BEYOND);
        Check.due("person(6)", x.person(6), Check.BEYOND);
        for (int i = 0; i < 8; i++) {
            Check.due("person " + i, x.person(i % 6), i);
        }
        Check.due("a ninth", x.person(0), Check.FULL);
        Check.due("a ninth of no kind", x.person(6), Check.BEYOND);
        Check.due("count(0)", x.count(0), 8);
        Check.due("status(1)", x.status(1), 1);
    }

    private static void ofNewOne() {
        WhisperSeats x = new WhisperSeats();
        x.person(Check.GENERAL);
        int[] due = {2, 0, 0, -1, 0, 0, -1, 9};
        for (int what = 0; what < due.length; what++) {
            Check.due("of(0, " + what + ")", x.of(0, what), due[what]);
        }
        Check.due("of(0, -1)", x.of(0, -1), Check.BEYOND);
        Check.due("of(0, 8)", x.of(0, 8), Check.BEYOND);
        Check.due("of(1, 0)", x.of(1, 0), Check.BEYOND);
        Check.due("of(-1, 0)", x.of(-1, 0), Check.BEYOND);
    }

    private static void ofSays() {
        WhisperSeats x = new WhisperSeats();
        Check.people(x, 0, 1, 2, 3, 4, 5);
        for (int i = 0; i < 6; i++) {
            Check.due("says nothing known: " + i, x.of(i, 6), -1);
            x.set(i, 1, Check.set(2, 5, 8));
        }
        x.set(1, 1, Check.set(0));
        Check.due("an actor that knows 0 alone says", x.of(1, 6), 0);
        x.set(1, 1, Check.set(2, 5, 8));
        int[] unbelieving = {2, 8, 2, -1, -1, 2};
        int[] believing = {5, 8, 5, -1, -1, 5};
        int[] withSham = {5, 8, 3, -1, -1, 5};
        for (int i = 0; i < 6; i++) {
            Check.due("says, believing none: " + i, x.of(i, 6), unbelieving[i]);
            x.set(i, 2, Check.set(5, 8));
            Check.due("says, believing: " + i, x.of(i, 6), believing[i]);
        }
        x.sham(Check.set(3, 5));
        for (int i = 0; i < 6; i++) {
            Check.due("says, with sham ones: " + i, x.of(i, 6), withSham[i]);
        }
    }

    private static void ofSaysByHour() {
        WhisperSeats x = new WhisperSeats();
        Check.people(x, 0, 4, 5, 2);
        x.set(0, 1, Check.set(1));
        x.set(1, 1, Check.set(4, 7));
        x.set(2, 1, Check.set(3));
        for (int hour = 0; hour < 48; hour++) {
            int h = hour % 24;
            boolean moon = h >= 22;
            Check.due("person says at " + hour, x.of(0, 6), moon ? -1 : 1);
            Check.due("lover says at " + hour, x.of(1, 6), moon || h < 12 ? -1 : 7);
            Check.due("spy says at " + hour, x.of(2, 6), h % 6 == 0 ? 3 : -1);
            x.sham(Check.set(9));
            Check.due("general says at " + hour, x.of(3, 6), moon ? -1 : 9);
            x.sham(0);
            x.hours(1);
            // Nobody learns of another, so that what each says depends on the hour alone.
            x.set(0, 1, Check.set(1));
            x.set(1, 1, Check.set(4, 7));
            x.set(2, 1, Check.set(3));
            x.set(3, 1, 0);
        }
    }

    private static void ofStays() {
        WhisperSeats x = new WhisperSeats();
        Check.people(x, 0, 1, 2, 3, 4, 5);
        int[] due = {3, 4, 9, 6, 4, 6};
        for (int i = 0; i < 6; i++) {
            Check.due("stays " + i, x.of(i, 7), due[i]);
            x.set(i, 1, 1023);
            Check.due("stays, knowing all " + i, x.of(i, 7), i == Check.LOVER ? 6 : due[i]);
        }
        int[] sets = {7, 15, 127, 255, 511};
        int[] lover = {4, 5, 5, 6, 6};
        for (int k = 0; k < sets.length; k++) {
            x.set(4, 1, sets[k]);
            Check.due("lover stays with " + sets[k], x.of(4, 7), lover[k]);
        }
    }

    private static void setKnown() {
        WhisperSeats x = new WhisperSeats();
        x.person(Check.PERSON);
        Check.due("set(0, 1, 1023)", x.set(0, 1, 1023), 0);
        Check.due("set(0, 2, 6)", x.set(0, 2, 6), 0);
        Check.due("set(0, 1, 12)", x.set(0, 1, 12), 1023);
        Check.due("believes no others", x.of(0, 2), 4);
        Check.due("set(0, 1, -1)", x.set(0, 1, -1), Check.BEYOND);
        Check.due("set(0, 1, 1024)", x.set(0, 1, 1024), Check.BEYOND);
        Check.due("still known", x.of(0, 1), 12);
        Check.due("set(0, 1, 0)", x.set(0, 1, 0), 12);
        Check.due("believes none", x.of(0, 2), 0);
    }

    private static void setBelievedAndHeard() {
        WhisperSeats x = new WhisperSeats();
        x.person(Check.PERSON);
        x.set(0, 1, 12);
        Check.due("set(0, 2, 4)", x.set(0, 2, 4), 0);
        Check.due("set(0, 2, 12)", x.set(0, 2, 12), 4);
        Check.due("set(0, 2, 2)", x.set(0, 2, 2), Check.BEYOND);
        Check.due("set(0, 2, 14)", x.set(0, 2, 14), Check.BEYOND);
        Check.due("set(0, 2, 1028)", x.set(0, 2, 1028), Check.BEYOND);
        Check.due("set(0, 2, -1)", x.set(0, 2, -1), Check.BEYOND);
        Check.due("believes still", x.of(0, 2), 12);
        Check.due("set(0, 5, 9999)", x.set(0, 5, 9999), 0);
        Check.due("set(0, 5, 10000)", x.set(0, 5, 10000), Check.BEYOND);
        Check.due("set(0, 5, -1)", x.set(0, 5, -1), Check.BEYOND);
        Check.due("set(0, 5, 3)", x.set(0, 5, 3), 9999);
        Check.due("of(0, 5)", x.of(0, 5), 3);
        Check.due("set(0, 5, 0)", x.set(0, 5, 0), 3);
        Check.due("of(0, 5)", x.of(0, 5), 0);
        int[] others = {-1, 0, 3, 4, 6, 7};
        for (int what : others) {
            Check.due("set(0, " + what + ", 0)", x.set(0, what, 0), Check.BEYOND);
        }
        Check.due("set(1, 1, 0)", x.set(1, 1, 0), Check.BEYOND);
        Check.due("set(-1, 1, 0)", x.set(-1, 1, 0), Check.BEYOND);
        Check.due("still known", x.of(0, 1), 12);
    }

    private static void turn() {
        WhisperSeats x = new WhisperSeats();
        x.person(Check.WIFE);
        x.set(0, 1, 12);
        x.set(0, 2, 4);
        x.set(0, 5, 8);
        x.sit(0, 1);
        Check.due("turn(0, 5)", x.turn(0, 5), 3);
        Check.due("turn(0, 5) again", x.turn(0, 5), 5);
        Check.due("turn(0, 0)", x.turn(0, 0), 5);
        int[] due = {0, 12, 4, 1, 0, 8, 2, 3};
        for (int what = 0; what < due.length; what++) {
            Check.due("turned: of(0, " + what + ")", x.of(0, what), due[what]);
        }
        Check.due("turn(0, 6)", x.turn(0, 6), Check.BEYOND);
        Check.due("turn(0, -1)", x.turn(0, -1), Check.BEYOND);
        Check.due("turn(1, 0)", x.turn(1, 0), Check.BEYOND);
        Check.due("turn(-1, 0)", x.turn(-1, 0), Check.BEYOND);
        Check.due("of(0, 0)", x.of(0, 0), 0);
    }

    private static void as() {
        WhisperSeats x = new WhisperSeats();
        Check.people(x, 0, 1, 2, 3, 4, 5);
        String[] under = {"0", "01", "02", "03", "014", "035"};
        for (int i = 0; i < 6; i++) {
            x.set(i, 5, 10 + i);
            for (int kind = 0; kind < 6; kind++) {
                boolean is = under[i].indexOf('0' + kind) >= 0;
                Check.due("as(" + i + ", " + kind + ")", x.as(i, kind), is ? 10 + i : Check.KIND);
            }
        }
        Check.due("as(0, 6)", x.as(0, 6), Check.BEYOND);
        Check.due("as(0, -1)", x.as(0, -1), Check.BEYOND);
        Check.due("as(6, 0)", x.as(6, 0), Check.BEYOND);
        Check.due("as(-1, 1)", x.as(-1, 1), Check.BEYOND);
        Check.due("status(2)", x.status(2), 36 - 13);
    }

    private static void sit() {
        WhisperSeats x = Check.tuesday(0, 0, 0);
        Check.due("sit(0, 1)", x.sit(0, 1), -1);
        Check.due("now(4)", x.now(4), 0);
        Check.due("sit(1, 1)", x.sit(1, 1), Check.STATE);
        Check.due("of(1, 3)", x.of(1, 3), -1);
        x.hours(1);
        Check.due("sat 1", x.of(0, 4), 1);
        Check.due("sit(0, 1) again", x.sit(0, 1), 1);
        Check.due("sat 0", x.of(0, 4), 0);
        Check.due("who came to seat 0", x.now(3), 1);
        Check.due("sit(1, -1)", x.sit(1, -1), 0);
        Check.due("sit(1, -1) again", x.sit(1, -1), -1);
        x.hours(1);
        Check.due("sat 1", x.of(0, 4), 1);
        x.sit(2, -1);
        Check.due("sit(0, 0), from one seat to the other", x.sit(0, 0), 1);
        Check.due("sat 0", x.of(0, 4), 0);
        Check.due("now(4) empty", x.now(4), -1);
        Check.due("sit doesn't tell who came last", x.now(7), 2);
        Check.due("sit(0, 2)", x.sit(0, 2), Check.BEYOND);
        Check.due("sit(0, -2)", x.sit(0, -2), Check.BEYOND);
        Check.due("sit(3, 0)", x.sit(3, 0), Check.BEYOND);
        Check.due("sit(-1, 0)", x.sit(-1, 0), Check.BEYOND);
        Check.due("status(4)", x.status(4), 1);
    }

    private static void trusts() {
        WhisperSeats x = new WhisperSeats();
        Check.people(x, 0, 1, 2, 3, 4, 5);
        x.sham(Check.set(9));
        int[] sets = {0, 3, 7, 15, 31, 63, 1023};
        String[] shamTrustedBy = {"0134", "0134", "14", "14", "134", "134", "134"};
        for (int k = 0; k < sets.length; k++) {
            for (int i = 0; i < 6; i++) {
                x.set(i, 1, sets[k]);
                boolean due = shamTrustedBy[k].indexOf('0' + i) >= 0;
                Check.due("trusts a sham one: " + i + " with " + sets[k], x.trusts(i, 9), due ? 1 : 0);
                Check.due("trusts a true one: " + i + " with " + sets[k], x.trusts(i, 0), 1);
            }
        }
        Check.due("trusts(0, 10)", x.trusts(0, 10), Check.BEYOND);
        Check.due("trusts(0, -1)", x.trusts(0, -1), Check.BEYOND);
        Check.due("trusts(6, 0)", x.trusts(6, 0), Check.BEYOND);
        Check.due("trusts(-1, 0)", x.trusts(-1, 0), Check.BEYOND);
    }
}
