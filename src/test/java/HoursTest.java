/** Promises 11 to 16: hours, now, on, knows, out, meet. */
public final class HoursTest {
    public static void main(String[] args) {
        hoursBeyond();
        twoTalk();
        whatIsHeardLosesBelief();
        trustByWhatWasKnownAhead();
        monday();
        mondayNeedsBoth();
        moon();
        heardIsHeld();
        comingInTurn();
        comingAgain();
        hoursState();
        sittersTurned();
        loverStaysByWhatItHears();
        now();
        on();
        knows();
        knowsIn200();
        out();
        meet();
        Check.end();
    }

    private static void hoursBeyond() {
        WhisperSeats x = new WhisperSeats();
        int[] wrong = {0, -1, 101, Integer.MIN_VALUE, Integer.MAX_VALUE};
        for (int n : wrong) {
            Check.due("hours(" + n + ")", x.hours(n), Check.BEYOND);
        }
        Check.due("now(0)", x.now(0), 0);
        Check.due("hours(1)", x.hours(1), 0);
        Check.due("hours(100)", x.hours(100), 0);
        Check.due("now(0)", x.now(0), 101);
    }

    private static void twoTalk() {
        WhisperSeats x = Check.tuesday(Check.PERSON, Check.ACTOR);
        x.set(0, 1, Check.set(1));
        x.set(1, 1, Check.set(4, 5));
        x.sit(0, 0);
        x.sit(1, 1);
        Check.due("hour 1", x.hours(1), 2);
        Check.due("person knows", x.of(0, 1), Check.set(1, 5));
        Check.due("person believes", x.of(0, 2), Check.set(5));
        Check.due("actor knows", x.of(1, 1), Check.set(1, 4, 5));
        Check.due("actor believes", x.of(1, 2), Check.set(1));
        Check.due("person sat", x.of(0, 4), 1);
        Check.due("hour 2", x.hours(1), 4);
        Check.due("actor believes", x.of(1, 2), Check.set(1, 5));
        Check.due("hour 3", x.hours(1), 6);
        Check.due("the person went", x.now(3), -1);
        Check.due("it hasn't sat", x.of(0, 4), 0);
        Check.due("the actor stays", x.now(4), 1);
        Check.due("hour 4", x.hours(1), 6);
        Check.due("the person comes", x.now(3), 0);
        Check.due("the actor went", x.now(4), -1);
        Check.due("who came last", x.now(7), 0);
        Check.due("hour 5", x.hours(1), 6);
        Check.due("the actor comes", x.now(4), 1);
        Check.due("who came last", x.now(7), 1);
        Check.due("person heard", x.of(0, 5), 3);
    }

    private static void whatIsHeardLosesBelief() {
        WhisperSeats x = Check.tuesday(Check.PERSON, Check.GENERAL);
        x.sham(Check.set(0));
        x.set(0, 1, Check.set(0, 1, 2));
        x.set(0, 2, Check.set(0, 1));
        x.sit(0, 0);
        x.sit(1, 1);
        x.hours(1);
        Check.due("person, told a sham one, believes", x.of(0, 2), Check.set(1));
        Check.due("person knows", x.of(0, 1), Check.set(0, 1, 2));
        Check.due("general, told the sham one by the person, knows", x.of(1, 1), Check.set(0));
        Check.due("general believes", x.of(1, 2), 0);
    }

    private static void trustByWhatWasKnownAhead() {
        WhisperSeats x = Check.tuesday(Check.PERSON, Check.GENERAL);
        x.sham(Check.set(9));
        x.set(0, 1, Check.set(1, 2));
        x.sit(0, 0);
        x.sit(1, 1);
        x.hours(1);
        Check.due("two known ahead of it: believes", x.of(0, 2), Check.set(9));
        x.hours(1);
        Check.due("three known ahead of it: doesn't any more", x.of(0, 2), 0);
        Check.due("heard", x.of(0, 5), 2);
    }

    private static void monday() {
        WhisperSeats x = new WhisperSeats();
        Check.people(x, Check.PERSON, Check.GENERAL);
        x.sham(Check.set(3));
        x.set(0, 1, Check.set(1, 2));
        x.sit(0, 0);
        x.sit(1, 1);
        Check.due("on a Monday", x.hours(1), 0);
        Check.due("person believes itself", x.of(0, 2), Check.set(1));
        Check.due("person knows", x.of(0, 1), Check.set(1, 2));
        Check.due("general knows none", x.of(1, 1), 0);
        Check.due("general believes none", x.of(1, 2), 0);
        x.set(1, 1, Check.set(3));
        x.hours(1);
        Check.due("general believes a sham one that it knows", x.of(1, 2), Check.set(3));
        WhisperSeats y = new WhisperSeats();
        for (int day = 0; day < 16; day++) {
            Check.due("day " + day, y.now(2), day % 7 == 0 ? 1 : 0);
            y.hours(23);
            Check.due("late on day " + day, y.now(2), day % 7 == 0 ? 1 : 0);
            y.hours(1);
        }
    }

    private static void mondayNeedsBoth() {
        WhisperSeats x = new WhisperSeats();
        x.person(Check.PERSON);
        x.set(0, 1, Check.set(1));
        x.sit(0, 0);
        x.hours(2);
        Check.due("alone on a Monday, believes", x.of(0, 2), 0);
    }

    private static void moon() {
        WhisperSeats x = new WhisperSeats();
        x.hours(24 + 21);
        Check.people(x, Check.PERSON, Check.PERSON);
        x.set(0, 1, Check.set(1));
        x.set(1, 1, Check.set(2));
        for (int hour = 21; hour < 25; hour++) {
            x.sit(0, 0);
            x.sit(1, 1);
            x.hours(1);
            Check.due("heard behind hour " + hour, x.count(2), hour < 22 ? 2 : hour < 24 ? 2 : 4);
        }
    }

    private static void heardIsHeld() {
        WhisperSeats x = Check.tuesday(Check.ACTOR, Check.ACTOR);
        x.set(0, 1, Check.set(1));
        x.set(1, 1, Check.set(1));
        x.set(0, 5, 9998);
        x.sit(0, 0);
        x.sit(1, 1);
        Check.due("to 9999", x.hours(1), 10000);
        Check.due("held", x.hours(1), 10001);
        Check.due("of(0, 5)", x.of(0, 5), 9999);
    }

    private static void comingInTurn() {
        WhisperSeats x = Check.tuesday(0, 0, 0, 0);
        x.sit(1, 1);
        x.hours(1);
        Check.due("0 comes to seat 0", x.now(3), 0);
        Check.due("1 stays on seat 1", x.now(4), 1);
        Check.due("last 0", x.now(7), 0);
        x.hours(2);
        Check.due("1 went, 2 comes, 1 being passed over", x.now(4), 2);
        Check.due("0 stays", x.now(3), 0);
        x.hours(1);
        Check.due("0 went, 3 comes", x.now(3), 3);
        Check.due("last 3", x.now(7), 3);
        x.hours(2);
        Check.due("2 went, round to 0", x.now(4), 0);
        Check.due("last 0", x.now(7), 0);
        x.hours(1);
        Check.due("3 went, 1 comes", x.now(3), 1);
        x.sit(0, -1);
        x.sit(1, -1);
        x.hours(1);
        Check.due("2 comes to seat 0 first", x.now(3), 2);
        Check.due("3 comes to seat 1", x.now(4), 3);
        x.hours(3);
        Check.due("both went: 0 to seat 0", x.now(3), 0);
        Check.due("both went: 1 to seat 1", x.now(4), 1);
        Check.due("last 1", x.now(7), 1);
    }

    private static void comingAgain() {
        WhisperSeats x = Check.tuesday(0, 0);
        x.sit(1, 1);
        x.hours(1);
        Check.due("0 came last", x.now(7), 0);
        x.sit(0, -1);
        x.hours(1);
        Check.due("0 comes again, round past 1", x.now(3), 0);
    }

    /** More than the 512 calls that the document speaks of; the class keeps the rule behind them all the same. */
    private static void hoursState() {
        WhisperSeats x = new WhisperSeats();
        for (int i = 0; i < 999; i++) {
            x.hours(100);
        }
        Check.due("hours(100)", x.hours(100), Check.STATE);
        Check.due("hours(101)", x.hours(101), Check.BEYOND);
        Check.due("hours(99)", x.hours(99), 0);
        Check.due("now(0)", x.now(0), 99999);
        Check.due("hours(1)", x.hours(1), Check.STATE);
        Check.due("now(0)", x.now(0), 99999);
    }

    private static void sittersTurned() {
        WhisperSeats x = Check.tuesday(Check.GENERAL);
        x.sit(0, 0);
        x.hours(8);
        Check.due("the general sits", x.of(0, 4), 8);
        x.turn(0, Check.PERSON);
        x.hours(1);
        Check.due("one that has sat longer than it stays goes", x.now(3), -1);
    }

    private static void loverStaysByWhatItHears() {
        WhisperSeats x = Check.tuesday(Check.LOVER, Check.ACTOR);
        x.set(0, 1, Check.set(0, 1, 2));
        x.set(1, 1, Check.set(9));
        x.sit(0, 0);
        x.hours(3);
        x.sit(1, 1);
        x.hours(1);
        Check.due("with a fourth secret heard it stays 5", x.now(3), 0);
        x.hours(1);
        Check.due("then it goes", x.now(3), -1);
    }

    private static void now() {
        WhisperSeats x = Check.tuesday(0, 0);
        x.hours(2);
        x.set(0, 1, Check.set(0, 4, 9));
        x.set(1, 1, Check.set(4, 5, 9));
        x.sham(6);
        int[] due = {26, 2, 0, 0, 1, Check.set(4, 9), 6, 1};
        for (int what = 0; what < due.length; what++) {
            Check.due("now(" + what + ")", x.now(what), due[what]);
        }
        Check.due("now(-1)", x.now(-1), Check.BEYOND);
        Check.due("now(8)", x.now(8), Check.BEYOND);
    }

    /** A person and an actor that talk for three hours on a Tuesday; see twoTalk(). */
    private static WhisperSeats talkers() {
        return Check.pair(Check.PERSON, Check.set(1), Check.ACTOR, Check.set(4, 5));
    }

    private static void on() {
        WhisperSeats x = talkers();
        Check.due("on(0, 0, 0)", x.on(0, 0, 0), Check.set(1));
        Check.due("on(0, 1, 0)", x.on(0, 1, 0), Check.set(1, 5));
        Check.due("on(0, 1, 1)", x.on(0, 1, 1), Check.set(5));
        Check.due("on(1, 1, 1)", x.on(1, 1, 1), Check.set(1));
        Check.due("on(1, 2, 1)", x.on(1, 2, 1), Check.set(1, 5));
        Check.due("on(0, 2, 2)", x.on(0, 2, 2), 0);
        Check.due("on(0, 3, 2)", x.on(0, 3, 2), -1);
        Check.due("on(1, 5, 2)", x.on(1, 5, 2), 1);
        Check.due("nothing changes: HOUR", x.now(0), 24);
        Check.due("nothing changes: HEARD", x.count(2), 0);
        Check.due("nothing changes: known", x.of(0, 1), Check.set(1));
        Check.due("nothing changes: last", x.now(7), -1);
        int known = x.on(0, 200, 0);
        x.hours(100);
        x.hours(100);
        Check.due("on 200 hours is what comes", x.of(0, 1), known);
        Check.due("on(0, 201, 0)", x.on(0, 201, 0), Check.BEYOND);
        Check.due("on(0, -1, 0)", x.on(0, -1, 0), Check.BEYOND);
        Check.due("on(2, 0, 0)", x.on(2, 0, 0), Check.BEYOND);
        Check.due("on(-1, 0, 0)", x.on(-1, 0, 0), Check.BEYOND);
        Check.due("on(0, 0, 3)", x.on(0, 0, 3), Check.BEYOND);
        Check.due("on(0, 0, -1)", x.on(0, 0, -1), Check.BEYOND);
    }

    private static void knows() {
        WhisperSeats x = talkers();
        Check.due("knows(0, 1)", x.knows(0, 1), 0);
        Check.due("knows(0, 5)", x.knows(0, 5), 1);
        Check.due("knows(1, 1)", x.knows(1, 1), 1);
        Check.due("knows(0, 4)", x.knows(0, 4), Check.NONE);
        Check.due("knows(0, 10)", x.knows(0, 10), Check.BEYOND);
        Check.due("knows(0, -1)", x.knows(0, -1), Check.BEYOND);
        Check.due("knows(2, 0)", x.knows(2, 0), Check.BEYOND);
        Check.due("knows(-1, 0)", x.knows(-1, 0), Check.BEYOND);
        Check.due("status(3)", x.status(3), 1);
        Check.due("nothing changes", x.now(0), 24);
    }

    /** Secret 3 takes more than 201 hours from the spy to the actor. */
    private static WhisperSeats slowOnes() {
        WhisperSeats x = new WhisperSeats();
        Check.people(x, Check.ACTOR, Check.SPY, Check.GENERAL, Check.WIFE, Check.WIFE);
        x.set(1, 1, Check.set(3));
        return x;
    }

    private static void go(WhisperSeats x, int hours) {
        for (int i = 0; i < hours; i++) {
            x.hours(1);
        }
    }

    private static void knowsIn200() {
        WhisperSeats x = slowOnes();
        int takes = 0;
        while (takes < 400 && (x.of(0, 1) & Check.set(3)) == 0) {
            x.hours(1);
            takes++;
        }
        Check.due("it takes long", takes > 201 && takes < 400 ? 1 : 0, 1);
        WhisperSeats just = slowOnes();
        go(just, takes - 200);
        Check.due("knows(0, 3) in 200 hours", just.knows(0, 3), 200);
        WhisperSeats early = slowOnes();
        go(early, takes - 201);
        Check.due("knows(0, 3) in 201 hours", early.knows(0, 3), Check.NONE);
    }

    private static void out() {
        WhisperSeats x = talkers();
        Check.due("out(5)", x.out(5), 1);
        Check.due("out(1)", x.out(1), 1);
        Check.due("out(4)", x.out(4), Check.NONE);
        x.hours(1);
        Check.due("out(5) by now", x.out(5), 0);
        Check.due("now(5)", x.now(5), Check.set(1, 5));
        Check.due("out(10)", x.out(10), Check.BEYOND);
        Check.due("out(-1)", x.out(-1), Check.BEYOND);
        WhisperSeats y = new WhisperSeats();
        Check.due("out(0) of nobody", y.out(0), Check.NONE);
    }

    private static void meet() {
        WhisperSeats x = talkers();
        Check.due("meet(0, 1) now", x.meet(0, 1), 0);
        Check.due("meet(1, 0) now", x.meet(1, 0), 0);
        x.hours(3);
        Check.due("meet(0, 1) when the actor comes again", x.meet(0, 1), 2);
        Check.due("meet(0, 0)", x.meet(0, 0), Check.BEYOND);
        Check.due("meet(0, 2)", x.meet(0, 2), Check.BEYOND);
        Check.due("meet(2, 0)", x.meet(2, 0), Check.BEYOND);
        Check.due("meet(-1, 0)", x.meet(-1, 0), Check.BEYOND);
        WhisperSeats y = Check.tuesday(0, 0, 0, 0);
        Check.due("two that come to the same seat by turns: 0, 1", y.meet(0, 1), 1);
        Check.due("2, 3", y.meet(2, 3), 4);
        Check.due("0, 2 never", y.meet(0, 2), Check.NONE);
        Check.due("nothing changes", y.now(7), -1);
    }
}
