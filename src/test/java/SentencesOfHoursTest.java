/** Promises 11 to 16, a test for each sentence. */
public final class SentencesOfHoursTest {
    private static final int FARTHEST = 200;
    private static final int SEEDS = 12;

    public static void main(String[] args) {
        hours();
        now();
        on();
        knows();
        out();
        meet();
        Doc.end();
    }

    /** A person that knows 1 on seat 0 and an actor that knows 4 and 5 on seat 1, on a Tuesday. */
    private static WhisperSeats talkers() {
        return Check.pair(Check.PERSON, Check.set(1), Check.ACTOR, Check.set(4, 5));
    }

    private static void hours() {
        Doc.part("Promise 11");
        Doc.says("n HOURS go (1 to 100): HEARD of all together then.");
        WhisperSeats nobody = new WhisperSeats();
        Check.due("nobody, hours(1)", nobody.hours(1), 0);
        Check.due("nobody, hours(100)", nobody.hours(100), 0);
        Check.due("HOUR", nobody.now(0), 101);
        WhisperSeats x = talkers();
        x.set(0, 5, 9999);
        x.set(1, 5, 20);
        Check.due("one held to 9999, the other hears one", x.hours(1), 9999 + 21);
        Whole.changes("hours(1)", y -> y.hours(1), 83, "now(0)=33", "now(1)=9", "count(2)=83", "count(3)=5",
            "of(3, 4)=2", "of(4, 1)=4", "of(4, 2)=4", "of(4, 4)=1", "of(4, 5)=1", "of(4, 6)=2");
        for (int seed = 0; seed < SEEDS; seed++) {
            WhisperSeats once = Parks.lived(seed);
            WhisperSeats hourly = Parks.lived(seed);
            int heard = once.hours(100);
            for (int i = 0; i < 99; i++) {
                hourly.hours(1);
            }
            Check.due("a hundred by one, seed " + seed, hourly.hours(1), heard);
            Check.due("count(2), seed " + seed, once.count(2), heard);
            Check.due("as a whole, seed " + seed, Whole.of(once).equals(Whole.of(hourly)) ? 1 : 0, 1);
        }
        Doc.says("BEYOND.");
        int[] wrong = {0, -1, 101, 200, Integer.MIN_VALUE, Integer.MAX_VALUE};
        for (int n : wrong) {
            Check.due("hours(" + n + ")", nobody.hours(n), Check.BEYOND);
        }
        Check.due("HOUR", nobody.now(0), 101);
        Doc.says("STATE: HOUR would be above 99999.");
        lastHours();
    }

    /** No run of 512 calls comes so far; the limit is kept behind them all the same. */
    private static void lastHours() {
        WhisperSeats x = new WhisperSeats();
        for (int i = 0; i < 999; i++) {
            x.hours(100);
        }
        Check.due("to 100000", x.hours(100), Check.STATE);
        Check.due("hours(101)", x.hours(101), Check.BEYOND);
        Check.due("HOUR", x.now(0), 99900);
        Check.due("to 99999", x.hours(99), 0);
        Check.due("one more", x.hours(1), Check.STATE);
        Check.due("none", x.hours(0), Check.BEYOND);
        Check.due("HOUR", x.now(0), 99999);
        x.person(0);
        Check.due("ON goes on", x.on(0, 1, 2), 0);
        Check.due("status(4)", x.status(4), 2);
    }

    private static void now() {
        Doc.part("Promise 12");
        Doc.says("What 0 HOUR, 1 hour of the day, 2 1 if it is a MONDAY, else 0, 3 who is ON SEAT 0 (-1), 4 ON SEAT 1 (-1), "
            + "5 SECRETS that are OUT, as a set, 6 SECRETS that are SHAM, as a set, 7 WHO CAME LAST (-1).");
        WhisperSeats x = new WhisperSeats();
        dueNow("a new one", x, 0, 0, 1, -1, -1, 0, 0, -1);
        Check.people(x, 0, 0, 0, 0, 0, 0, 0, 0);
        for (int i = 0; i < 8; i++) {
            x.set(i, 1, Check.set(0, i, 9));
        }
        x.sham(1023);
        x.sit(7, 0);
        x.sit(6, 1);
        dueNow("the last ones sit", x, 0, 0, 1, 7, 6, Check.set(0, 9), 1023, -1);
        x.hours(23);
        x.sit(x.now(3), -1);
        x.sit(x.now(4), -1);
        int last = x.now(7);
        dueNow("late", x, 23, 23, 1, -1, -1, Check.set(0, 9), 1023, last);
        x.hours(1);
        dueNow("a Tuesday", x, 24, 0, 0, (last + 1) % 8, (last + 2) % 8, Check.set(0, 9), 1023, (last + 2) % 8);
        Doc.says("BEYOND.");
        int[] wrong = {-1, 8, Integer.MIN_VALUE, Integer.MAX_VALUE};
        for (int what : wrong) {
            Check.due("now(" + what + ")", x.now(what), Check.BEYOND);
        }
    }

    private static void dueNow(String when, WhisperSeats x, int... due) {
        for (int what = 0; what < 8; what++) {
            Check.due(when + ": now(" + what + ")", x.now(what), due[what]);
        }
    }

    private static void on() {
        Doc.part("Promise 13");
        Doc.says("What one KNOWS (what 0), BELIEVES (1), as sets, its SEAT (2; -1) ON n HOURS (0 to 200).");
        int[] hours = {0, 1, 2, 99, 100, 101, 199, 200};
        for (int seed = 0; seed < SEEDS; seed++) {
            WhisperSeats x = Parks.lived(seed);
            for (int n : hours) {
                WhisperSeats then = Parks.lived(seed, n);
                for (int i = 0; i < then.count(0); i++) {
                    String call = "seed " + seed + ": on(" + i + ", " + n + ", ";
                    Check.due(call + "0)", x.on(i, n, 0), then.of(i, 1));
                    Check.due(call + "1)", x.on(i, n, 1), then.of(i, 2));
                    Check.due(call + "2)", x.on(i, n, 2), then.of(i, 3));
                }
            }
        }
        WhisperSeats x = talkers();
        Check.due("known now", x.on(0, 0, 0), Check.set(1));
        Check.due("known in an hour", x.on(0, 1, 0), Check.set(1, 5));
        Check.due("believed in an hour", x.on(0, 1, 1), Check.set(5));
        Check.due("its seat in two hours", x.on(0, 2, 2), 0);
        Check.due("its seat in three hours", x.on(0, 3, 2), -1);
        Doc.says("BEYOND.");
        int[] nobodies = {-1, 2, 8, Integer.MIN_VALUE, Integer.MAX_VALUE};
        for (int nobody : nobodies) {
            Check.due("on(" + nobody + ", 0, 0)", x.on(nobody, 0, 0), Check.BEYOND);
        }
        int[] wrongHours = {-1, 201, Integer.MIN_VALUE, Integer.MAX_VALUE};
        for (int n : wrongHours) {
            Check.due("on(0, " + n + ", 0)", x.on(0, n, 0), Check.BEYOND);
        }
        int[] whats = {-1, 3, Integer.MIN_VALUE, Integer.MAX_VALUE};
        for (int what : whats) {
            Check.due("on(0, 200, " + what + ")", x.on(0, 200, what), Check.BEYOND);
        }
    }

    /** At which hour, of those that a question looks at, something is so first; NONE if at none. */
    private interface Moment {
        boolean isSo(WhisperSeats then);
    }

    private static int first(int seed, Moment moment) {
        for (int n = 0; n <= FARTHEST; n++) {
            if (moment.isSo(Parks.lived(seed, n))) {
                return n;
            }
        }
        return Check.NONE;
    }

    private static boolean holds(int set, int member) {
        return (set >> member & 1) != 0;
    }

    private static void knows() {
        Doc.part("Promise 14");
        Doc.says("In how many HOURS (0 to 200) ON one KNOWS a SECRET first.");
        for (int seed = 0; seed < SEEDS; seed++) {
            WhisperSeats x = Parks.lived(seed);
            for (int secret = 0; secret < 10; secret++) {
                int one = secret % x.count(0);
                int wanted = secret;
                Check.due("seed " + seed + ": knows(" + one + ", " + secret + ")", x.knows(one, secret),
                    first(seed, then -> holds(then.of(one, 1), wanted)));
            }
        }
        // In park 20 secret 8 comes to person 1 in 260 hours, and not before.
        Moment known = then -> holds(then.of(1, 1), 8);
        Check.due("known in 259 hours", known.isSo(Parks.later(20, 259)) ? 1 : 0, 0);
        Check.due("known in 260 hours", known.isSo(Parks.later(20, 260)) ? 1 : 0, 1);
        Check.due("200 hours ahead of it", Parks.later(20, 60).knows(1, 8), 200);
        Check.due("199 hours ahead of it", Parks.later(20, 61).knows(1, 8), 199);
        Check.due("an hour ahead of it", Parks.later(20, 259).knows(1, 8), 1);
        Check.due("just then", Parks.later(20, 260).knows(1, 8), 0);
        Check.due("long behind it", Parks.later(20, 600).knows(1, 8), 0);
        Doc.says("BEYOND.");
        WhisperSeats x = talkers();
        int[] nobodies = {-1, 2, 8, Integer.MIN_VALUE, Integer.MAX_VALUE};
        for (int nobody : nobodies) {
            Check.due("knows(" + nobody + ", 1)", x.knows(nobody, 1), Check.BEYOND);
        }
        int[] noSecrets = {-1, 10, Integer.MIN_VALUE, Integer.MAX_VALUE};
        for (int secret : noSecrets) {
            Check.due("knows(0, " + secret + ")", x.knows(0, secret), Check.BEYOND);
        }
        Doc.says("NONE.");
        Check.due("201 hours ahead of it", Parks.later(20, 59).knows(1, 8), Check.NONE);
        Check.due("what nobody says", x.knows(0, 4), Check.NONE);
        Check.due("what nobody knows", x.knows(0, 9), Check.NONE);
    }

    private static void out() {
        Doc.part("Promise 15");
        Doc.says("In how many HOURS (0 to 200) ON a SECRET is OUT first.");
        for (int seed = 0; seed < SEEDS; seed++) {
            WhisperSeats x = Parks.lived(seed);
            for (int secret = 0; secret < 10; secret++) {
                int wanted = secret;
                Check.due("seed " + seed + ": out(" + secret + ")", x.out(secret),
                    first(seed, then -> holds(then.now(5), wanted)));
            }
        }
        // In park 20 secret 8 is out in 260 hours, and not before.
        Check.due("out in 259 hours", holds(Parks.later(20, 259).now(5), 8) ? 1 : 0, 0);
        Check.due("out in 260 hours", holds(Parks.later(20, 260).now(5), 8) ? 1 : 0, 1);
        Check.due("200 hours ahead of it", Parks.later(20, 60).out(8), 200);
        Check.due("an hour ahead of it", Parks.later(20, 259).out(8), 1);
        Check.due("just then", Parks.later(20, 260).out(8), 0);
        WhisperSeats x = talkers();
        Check.due("both say one", x.out(1) * 10 + x.out(5), 11);
        Doc.says("BEYOND.");
        int[] noSecrets = {-1, 10, Integer.MIN_VALUE, Integer.MAX_VALUE};
        for (int secret : noSecrets) {
            Check.due("out(" + secret + ")", x.out(secret), Check.BEYOND);
            Check.due("of nobody, out(" + secret + ")", new WhisperSeats().out(secret), Check.BEYOND);
        }
        Doc.says("NONE.");
        Check.due("201 hours ahead of it", Parks.later(20, 59).out(8), Check.NONE);
        Check.due("what nobody says", x.out(4), Check.NONE);
        Check.due("nobody is there", new WhisperSeats().out(0), Check.NONE);
    }

    private static boolean areTogether(WhisperSeats then, int person, int other) {
        return then.of(person, 3) >= 0 && then.of(other, 3) >= 0;
    }

    /** How long a lover stays hangs on what it is told, and so on what the other one believes. */
    private static void meetBehindALover() {
        WhisperSeats x = Check.pair(Check.GENERAL, Check.set(3, 7), Check.LOVER, Check.set(0, 1, 7));
        x.person(Check.WIFE);
        Check.due("told of 3, a fourth one, the lover stays five hours", x.meet(0, 2), 5);
        x.set(0, 2, Check.set(7));
        Check.due("told of 7, which it knows, it stays four", x.meet(0, 2), 4);
    }

    private static void meet() {
        Doc.part("Promise 16");
        Doc.says("In how many HOURS (0 to 200) ON two are ON the SEATS together first.");
        for (int seed = 0; seed < SEEDS; seed++) {
            WhisperSeats x = Parks.lived(seed);
            int last = x.count(0) - 1;
            int due = first(seed, then -> areTogether(then, 0, last));
            Check.due("seed " + seed + ": meet(0, " + last + ")", x.meet(0, last), due);
            Check.due("seed " + seed + ": meet(" + last + ", 0)", x.meet(last, 0), due);
        }
        meetBehindALover();
        // In park 88 persons 5 and 7 sit together in 246 hours, and not before.
        int together = 0;
        for (int n = 0; n < 246; n++) {
            together += areTogether(Parks.later(88, n), 5, 7) ? 1 : 0;
        }
        Check.due("together ahead of that", together, 0);
        Check.due("together then", areTogether(Parks.later(88, 246), 5, 7) ? 1 : 0, 1);
        Check.due("200 hours ahead of it", Parks.later(88, 46).meet(5, 7), 200);
        Check.due("an hour ahead of it", Parks.later(88, 245).meet(5, 7), 1);
        Check.due("just then", Parks.later(88, 246).meet(5, 7), 0);
        Doc.says("BEYOND: also one and the same.");
        WhisperSeats x = talkers();
        Check.due("meet(0, 0)", x.meet(0, 0), Check.BEYOND);
        Check.due("meet(1, 1)", x.meet(1, 1), Check.BEYOND);
        int[] nobodies = {-1, 2, 8, Integer.MIN_VALUE, Integer.MAX_VALUE};
        for (int nobody : nobodies) {
            Check.due("meet(0, " + nobody + ")", x.meet(0, nobody), Check.BEYOND);
            Check.due("meet(" + nobody + ", 0)", x.meet(nobody, 0), Check.BEYOND);
            Check.due("meet(" + nobody + ", " + nobody + ")", x.meet(nobody, nobody), Check.BEYOND);
        }
        Doc.says("NONE.");
        Check.due("201 hours ahead of it", Parks.later(88, 45).meet(5, 7), Check.NONE);
        // Four of one kind come by twos, always the same.
        Check.due("two that never do", Check.tuesday(0, 0, 0, 0).meet(0, 2), Check.NONE);
    }
}
