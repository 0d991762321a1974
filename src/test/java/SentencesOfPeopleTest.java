/** Promises 1 to 10, a test for each sentence. */
public final class SentencesOfPeopleTest {
    private static final int[] NO_KINDS = {-1, 6, Integer.MIN_VALUE, Integer.MAX_VALUE};
    private static final int[] NO_SECRETS = {-1, 10, 32, Integer.MIN_VALUE, Integer.MAX_VALUE};
    private static final int[] NO_SETS = {-1, 1024, 1025, 2047, Integer.MIN_VALUE, Integer.MAX_VALUE};
    /** In a park of three. */
    private static final int[] NOBODIES = {-1, 3, 8, Integer.MIN_VALUE, Integer.MAX_VALUE};

    public static void main(String[] args) {
        newObject();
        sham();
        who();
        person();
        of();
        set();
        setBeyond();
        turn();
        as();
        sit();
        sitFindings();
        trusts();
        Doc.end();
    }

    private static WhisperSeats three() {
        WhisperSeats x = new WhisperSeats();
        Check.people(x, Check.PERSON, Check.LOVER, Check.SPY);
        return x;
    }

    private static void newObject() {
        Doc.part("Promise 1");
        Doc.says("Nobody there, no SECRET SHAM; THE TAPE is empty, no image is kept.");
        WhisperSeats x = new WhisperSeats();
        Check.due("PEOPLE", x.count(0), 0);
        Check.due("person 0", x.of(0, 0), Check.BEYOND);
        Check.due("SHAM", x.now(6), 0);
        Check.due("THE TAPE", x.count(1), 0);
        Check.due("wipe()", x.wipe(), 0);
        Check.due("undo()", x.undo(), Check.NONE);
        Check.due("tear()", x.tear(), 0);
        x.image();
        x.person(0);
        x.sham(5);
        x.feed(0, 4);
        WhisperSeats other = new WhisperSeats();
        Check.due("another object: PEOPLE", other.count(0), 0);
        Check.due("another object: SHAM", other.now(6), 0);
        Check.due("another object: THE TAPE", other.count(1), 0);
        Check.due("another object: tear()", other.tear(), 0);
        Check.due("another object: status(-1)", other.status(-1), 0);
    }

    private static void sham() {
        Doc.part("Promise 2");
        Doc.says("SECRETS that are SHAM become a set (0 to 1023): what it was.");
        WhisperSeats x = new WhisperSeats();
        Check.due("sham(0)", x.sham(0), 0);
        Check.due("sham(1023)", x.sham(1023), 0);
        Check.due("now(6)", x.now(6), 1023);
        Check.due("sham(512)", x.sham(512), 1023);
        Check.due("sham(0) again", x.sham(0), 512);
        Check.due("now(6) again", x.now(6), 0);
        Whole.changes("sham(16)", y -> y.sham(16), 132, "now(6)=16", "of(3, 6)=4");
        Doc.says("BEYOND.");
        x.sham(7);
        for (int set : NO_SETS) {
            Check.due("sham(" + set + ")", x.sham(set), Check.BEYOND);
        }
        Check.due("now(6)", x.now(6), 7);
    }

    private static void who() {
        Doc.part("Promise 3");
        Doc.says("Who KNOWS a SECRET (what 0), BELIEVES it (1), as a set.");
        WhisperSeats x = new WhisperSeats();
        Check.due("of nobody", x.who(0, 0) + x.who(9, 1), 0);
        Check.people(x, 0, 0, 0, 0, 0, 0, 0, 0);
        Check.due("of eight that know none", x.who(0, 0) + x.who(9, 1), 0);
        for (int i = 0; i < 8; i++) {
            x.set(i, 1, 1023);
            Check.due("known to 0 to " + i, x.who(9, 0), (2 << i) - 1);
        }
        x.set(7, 2, Check.set(0));
        x.set(0, 2, Check.set(0, 9));
        Check.due("believed: 0", x.who(0, 1), 129);
        Check.due("believed: 9", x.who(9, 1), 1);
        Check.due("believed: 5", x.who(5, 1), 0);
        Doc.says("BEYOND.");
        for (int secret : NO_SECRETS) {
            Check.due("who(" + secret + ", 0)", x.who(secret, 0), Check.BEYOND);
            Check.due("who(" + secret + ", 1)", x.who(secret, 1), Check.BEYOND);
        }
        int[] whats = {-1, 2, Integer.MIN_VALUE, Integer.MAX_VALUE};
        for (int what : whats) {
            Check.due("who(0, " + what + ")", x.who(0, what), Check.BEYOND);
        }
    }

    private static void person() {
        Doc.part("Promise 4");
        Doc.says("One more, nowhere: the number.");
        WhisperSeats x = new WhisperSeats();
        for (int i = 0; i < 8; i++) {
            Check.due("person(" + i % 6 + ")", x.person(i % 6), i);
            Check.due("count(0)", x.count(0), i + 1);
            Check.due("KIND", x.of(i, 0), i % 6);
            Check.due("SEAT", x.of(i, 3), -1);
        }
        newWhereAnotherOneWas();
        Whole.changes("person(2)", y -> y.person(Check.GENERAL), 5, "count(0)=6", "of(5, 0)=2", "of(5, 1)=0", "of(5, 2)=0",
            "of(5, 3)=-1", "of(5, 4)=0", "of(5, 5)=0", "of(5, 6)=2", "of(5, 7)=9");
        Doc.says("BEYOND: kind.");
        WhisperSeats y = new WhisperSeats();
        for (int kind : NO_KINDS) {
            Check.due("person(" + kind + ")", y.person(kind), Check.BEYOND);
            Check.due("of eight, person(" + kind + ")", x.person(kind), Check.BEYOND);
        }
        Check.due("nobody came", y.count(0), 0);
        Doc.says("FULL.");
        for (int kind = 0; kind < 6; kind++) {
            Check.due("of eight, person(" + kind + ")", x.person(kind), Check.FULL);
        }
        Check.due("nobody came", x.count(0), 8);
    }

    /** Nothing of one that undo() took away is left to the next one of that number. */
    private static void newWhereAnotherOneWas() {
        WhisperSeats x = new WhisperSeats();
        x.image();
        x.person(Check.LOVER);
        x.set(0, 1, 1023);
        x.set(0, 2, 1023);
        x.set(0, 5, 9999);
        x.sit(0, 1);
        x.hours(2);
        x.undo();
        Check.due("the number is free again", x.person(Check.PERSON), 0);
        dueOf("all is new", x, 0, 0, 0, 0, -1, 0, 0, -1, 3);
    }

    private static void of() {
        Doc.part("Promise 5");
        Doc.says("Of one: what 0 KIND, 1 what it KNOWS, 2 what it BELIEVES, as sets, 3 SEAT (-1), 4 hours that it has sat "
            + "(0 nowhere), 5 HEARD, 6 what it SAYS, were it ON a SEAT now (-1), 7 STAYS.");
        WhisperSeats x = three();
        dueOf("one that is nowhere", x, 2, 5, 0, 0, -1, 0, 0, -1, 6);
        x.set(2, 1, 1023);
        x.set(2, 2, 512);
        x.set(2, 5, 9999);
        dueOf("all known, and nowhere", x, 2, 5, 1023, 512, -1, 0, 9999, 9, 6);
        x.sit(2, 1);
        dueOf("on seat 1", x, 2, 5, 1023, 512, 1, 0, 9999, 9, 6);
        x.set(0, 1, 0);
        x.hours(5);
        dueOf("at hour 5, sat nearly as long as can be", x, 2, 5, 1023, 512, 1, 5, 9999, -1, 6);
        x.hours(1);
        dueOf("at hour 6, gone", x, 2, 5, 1023, 512, -1, 0, 9999, 9, 6);
        Doc.says("BEYOND.");
        for (int nobody : NOBODIES) {
            for (int what = 0; what < 8; what++) {
                Check.due("of(" + nobody + ", " + what + ")", x.of(nobody, what), Check.BEYOND);
            }
        }
        int[] whats = {-1, 8, Integer.MIN_VALUE, Integer.MAX_VALUE};
        for (int what : whats) {
            Check.due("of(2, " + what + ")", x.of(2, what), Check.BEYOND);
        }
    }

    private static void dueOf(String when, WhisperSeats x, int person, int... due) {
        for (int what = 0; what < 8; what++) {
            Check.due(when + ": of(" + person + ", " + what + ")", x.of(person, what), due[what]);
        }
    }

    private static void set() {
        Doc.part("Promise 6");
        Doc.says("What one KNOWS (what 1; 0 to 1023; it BELIEVES no others any more), BELIEVES (2; only SECRETS that it "
            + "KNOWS), HEARD (5) becomes v: what it was.");
        WhisperSeats x = three();
        Check.due("knows all", x.set(2, 1, 1023), 0);
        Check.due("believes all", x.set(2, 2, 1023), 0);
        Check.due("knows 0 and 9 alone", x.set(2, 1, 513), 1023);
        Check.due("believes no others", x.of(2, 2), 513);
        Check.due("knows 1 and 9", x.set(2, 1, 514), 513);
        Check.due("doesn't believe what it knows newly", x.of(2, 2), 512);
        Check.due("believes all that it knows", x.set(2, 2, 514), 512);
        Check.due("believes none", x.set(2, 2, 0), 514);
        Check.due("knows still", x.set(2, 1, 0), 514);
        Check.due("believes none of none", x.set(2, 2, 0), 0);
        Check.due("HEARD 9999", x.set(2, 5, 9999), 0);
        Check.due("HEARD 0", x.set(2, 5, 0), 9999);
        Check.due("HEARD 1", x.set(2, 5, 1), 0);
        dueOf("the others", x, 0, 0, 0, 0, -1, 0, 0, -1, 3);
        dueOf("the others", x, 1, 4, 0, 0, -1, 0, 0, -1, 4);
        Whole.changes("set(3, 1, 32)", y -> y.set(3, 1, 32), 0, "of(3, 1)=32");
        Whole.changes("set(2, 1, 228)", y -> y.set(2, 1, Check.set(2, 5, 6, 7)), 28,
            "of(2, 1)=228", "of(2, 2)=4", "of(2, 7)=5", "count(3)=3");
        Whole.changes("set(0, 2, 258)", y -> y.set(0, 2, Check.set(1, 8)), 16, "of(0, 2)=258", "of(0, 6)=1", "count(3)=5");
        Whole.changes("set(2, 2, 4)", y -> y.set(2, 2, Check.set(2)), 20, "of(2, 2)=4", "count(3)=3");
        Whole.changes("set(3, 1, 32), set(3, 2, 32)", y -> y.set(3, 1, 32) + y.set(3, 2, 32), 0,
            "of(3, 1)=32", "of(3, 2)=32", "count(3)=5");
        Whole.changes("set(3, 5, 0)", y -> y.set(3, 5, 0), 77, "of(3, 5)=0", "count(2)=5");
        Whole.changes("set(2, 5, 9)", y -> y.set(2, 5, 9), 2, "of(2, 5)=9", "count(2)=89");
    }

    private static void setBeyond() {
        Doc.says("BEYOND.");
        WhisperSeats x = three();
        x.set(2, 1, 12);
        x.set(2, 2, 4);
        x.set(2, 5, 8);
        for (int set : NO_SETS) {
            Check.due("set(2, 1, " + set + ")", x.set(2, 1, set), Check.BEYOND);
            Check.due("set(2, 2, " + set + ")", x.set(2, 2, set), Check.BEYOND);
        }
        int[] unknown = {1, 2, 5, 13, 16, 512, 1023};
        for (int set : unknown) {
            Check.due("set(2, 2, " + set + ")", x.set(2, 2, set), Check.BEYOND);
        }
        int[] heard = {-1, 10000, Integer.MIN_VALUE, Integer.MAX_VALUE};
        for (int v : heard) {
            Check.due("set(2, 5, " + v + ")", x.set(2, 5, v), Check.BEYOND);
        }
        int[] whats = {-1, 0, 3, 4, 6, 7, 8, Integer.MIN_VALUE, Integer.MAX_VALUE};
        for (int what : whats) {
            Check.due("set(2, " + what + ", 0)", x.set(2, what, 0), Check.BEYOND);
        }
        int[] settable = {1, 2, 5};
        for (int nobody : NOBODIES) {
            for (int what : settable) {
                Check.due("set(" + nobody + ", " + what + ", 0)", x.set(nobody, what, 0), Check.BEYOND);
            }
        }
        dueOf("all refused", x, 2, 5, 12, 4, -1, 0, 8, 2, 6);
    }

    private static void turn() {
        Doc.part("Promise 7");
        Doc.says("One becomes one of another KIND: what it was.");
        WhisperSeats x = three();
        x.set(2, 1, 6);
        x.set(2, 2, 4);
        x.set(2, 5, 3);
        x.sit(2, 1);
        x.hours(1);
        x.sit(0, -1);
        int was = Check.SPY;
        for (int kind = 0; kind < 6; kind++) {
            Check.due("turn(2, " + kind + ")", x.turn(2, kind), was);
            Check.due("KIND", x.of(2, 0), kind);
            was = kind;
        }
        Check.due("turn to what it is", x.turn(2, Check.SPY), Check.SPY);
        Check.due("turn(2, 0)", x.turn(2, 0), Check.SPY);
        dueOf("all else stays", x, 2, 0, 6, 4, 1, 1, 3, 2, 3);
        Check.due("the others stay", x.of(0, 0) * 10 + x.of(1, 0), 4);
        Whole.changes("turn(3, 0)", y -> y.turn(3, Check.PERSON), Check.GENERAL, "of(3, 0)=0", "of(3, 6)=-1", "of(3, 7)=3");
        Whole.changes("turn(2, 1)", y -> y.turn(2, Check.ACTOR), Check.LOVER, "of(2, 0)=1", "of(2, 6)=4");
        Doc.says("BEYOND.");
        for (int kind : NO_KINDS) {
            Check.due("turn(2, " + kind + ")", x.turn(2, kind), Check.BEYOND);
        }
        for (int nobody : NOBODIES) {
            Check.due("turn(" + nobody + ", 1)", x.turn(nobody, 1), Check.BEYOND);
        }
        Check.due("KIND", x.of(2, 0), 0);
    }

    private static void as() {
        Doc.part("Promise 8");
        Doc.says("One as one of a kind: HEARD.");
        WhisperSeats x = new WhisperSeats();
        Check.people(x, 0, 1, 2, 3, 4, 5);
        int[] heard = {0, 1, 77, 9998, 9999, 5};
        for (int i = 0; i < 6; i++) {
            x.set(i, 5, heard[i]);
            Check.due("as its own kind: " + i, x.as(i, i), heard[i]);
            Check.due("as a person: " + i, x.as(i, 0), heard[i]);
        }
        Check.due("a lover as an actor", x.as(4, 1), 9999);
        Check.due("a spy as a wife", x.as(5, 3), 5);
        Doc.says("BEYOND: no such one, kind.");
        for (int kind : NO_KINDS) {
            Check.due("as(0, " + kind + ")", x.as(0, kind), Check.BEYOND);
        }
        int[] nobodies = {-1, 6, 8, Integer.MIN_VALUE, Integer.MAX_VALUE};
        for (int nobody : nobodies) {
            Check.due("as(" + nobody + ", 0)", x.as(nobody, 0), Check.BEYOND);
        }
        Doc.says("KIND: it isn't of that kind, nor of one under it.");
        int[][] not = {{1, 2, 3, 4, 5}, {2, 3, 4, 5}, {1, 3, 4, 5}, {1, 2, 4, 5}, {2, 3, 5}, {1, 2, 4}};
        for (int i = 0; i < 6; i++) {
            for (int kind : not[i]) {
                Check.due("as(" + i + ", " + kind + ")", x.as(i, kind), Check.KIND);
            }
        }
        x.turn(0, Check.LOVER);
        Check.due("turned, it is of the new kind", x.as(0, Check.ACTOR), 0);
        x.turn(4, Check.PERSON);
        Check.due("turned, it isn't of the old one", x.as(4, Check.ACTOR), Check.KIND);
    }

    private static void sit() {
        Doc.part("Promise 9");
        Doc.says("One sits down ON a SEAT (having sat 0 hours), or goes (-1): its SEAT till then.");
        WhisperSeats x = Check.tuesday(Check.PERSON, Check.GENERAL, Check.SPY);
        Check.due("nowhere to nowhere", x.sit(1, -1), -1);
        Check.due("nowhere to seat 0", x.sit(1, 0), -1);
        x.hours(4);
        Check.due("has sat", x.of(1, 4), 4);
        Check.due("to the seat that it has", x.sit(1, 0), 0);
        Check.due("has sat 0 hours", x.of(1, 4), 0);
        x.hours(8);
        Check.due("stays as long as from anew", x.of(1, 4), 8);
        x.sit(x.now(4), -1);
        Check.due("seat 0 to seat 1", x.sit(1, 1), 0);
        Check.due("has sat 0 hours", x.of(1, 4), 0);
        Check.due("seat 0 is empty", x.now(3), -1);
        Check.due("seat 1 is held", x.now(4), 1);
        Check.due("another one to seat 0", x.sit(0, 0), -1);
        Check.due("it goes", x.sit(1, -1), 1);
        Check.due("it is nowhere", x.of(1, 3), -1);
        Check.due("hasn't sat", x.of(1, 4), 0);
        Check.due("and goes again", x.sit(1, -1), -1);
        Check.due("the other one stays", x.now(3), 0);
        Whole.changes("sit(3, 1)", y -> y.sit(3, 1), 1, "of(3, 4)=0");
        Whole.changes("sit(3, -1)", y -> y.sit(3, -1), 1, "of(3, 3)=-1", "of(3, 4)=0", "now(4)=-1");
        Whole.changes("sit(4, -1)", y -> y.sit(4, -1), 0, "of(4, 3)=-1", "now(3)=-1");
        Whole.changes("sit(4, -1), sit(2, 0)", y -> y.sit(4, -1) + y.sit(2, 0), -1, "of(4, 3)=-1", "of(2, 3)=0", "now(3)=2");
    }

    private static void sitFindings() {
        Doc.says("BEYOND.");
        WhisperSeats x = three();
        x.sit(0, 0);
        int[] seats = {-2, 2, Integer.MIN_VALUE, Integer.MAX_VALUE};
        for (int seat : seats) {
            Check.due("sit(0, " + seat + ")", x.sit(0, seat), Check.BEYOND);
        }
        for (int nobody : NOBODIES) {
            for (int seat = -1; seat < 2; seat++) {
                Check.due("sit(" + nobody + ", " + seat + ")", x.sit(nobody, seat), Check.BEYOND);
            }
        }
        Check.due("still there", x.of(0, 3), 0);
        Doc.says("STATE: another one sits there.");
        Check.due("to seat 0, from nowhere", x.sit(1, 0), Check.STATE);
        x.sit(2, 1);
        Check.due("to seat 1, from nowhere", x.sit(1, 1), Check.STATE);
        Check.due("to seat 1, from seat 0", x.sit(0, 1), Check.STATE);
        Check.due("to seat 0, from seat 1", x.sit(2, 0), Check.STATE);
        Check.due("all stay", x.of(0, 3) + 10 * x.of(2, 3) + 100 * x.of(1, 3), -90);
        Check.due("going is never refused", x.sit(1, -1), -1);
        x.sit(0, -1);
        Check.due("the seat is empty then", x.sit(1, 0), -1);
    }

    private static void trusts() {
        Doc.part("Promise 10");
        Doc.says("1 if one TRUSTS a SECRET, hearing it now, else 0.");
        WhisperSeats x = three();
        x.sham(Check.set(0, 9));
        x.set(0, 1, Check.set(1, 2));
        Check.due("two known, 9 sham", x.trusts(0, 9), 1);
        x.set(0, 1, Check.set(0, 1, 2));
        Check.due("three known, 9 sham", x.trusts(0, 9), 0);
        Check.due("three known, 0 sham and one of them", x.trusts(0, 0), 0);
        Check.due("three known, 1 true", x.trusts(0, 1), 1);
        Check.due("a lover", x.trusts(1, 9), 1);
        Check.due("a spy", x.trusts(2, 0), 0);
        Check.due("nothing is heard by that", x.count(2) + x.of(2, 1), 0);
        Doc.says("BEYOND.");
        for (int secret : NO_SECRETS) {
            Check.due("trusts(0, " + secret + ")", x.trusts(0, secret), Check.BEYOND);
        }
        for (int nobody : NOBODIES) {
            Check.due("trusts(" + nobody + ", 0)", x.trusts(nobody, 0), Check.BEYOND);
        }
    }
}
