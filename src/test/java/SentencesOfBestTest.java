import java.util.function.IntPredicate;
import java.util.function.IntUnaryOperator;

/** Promises 17 to 22, a test for each sentence; what is best is found out a second time by other calls. */
public final class SentencesOfBestTest {
    private static final int SEEDS = 100;
    private static final int[] NO_WEIGHABLE_HOURS = {0, -1, 61, 100, Integer.MIN_VALUE, Integer.MAX_VALUE};
    private static final int[] WEIGHABLE_HOURS = {1, 2, 59, 60};

    public static void main(String[] args) {
        kind();
        forget();
        confide();
        enough();
        doubt();
        wisest();
        Doc.end();
    }

    /** The least of those candidates whose worth is most; there must be one. */
    private static int best(int candidates, IntPredicate isOne, IntUnaryOperator worth) {
        int best = -1;
        int most = -1;
        for (int i = candidates - 1; i >= 0; i--) {
            if (isOne.test(i)) {
                int value = worth.applyAsInt(i);
                best = value >= most ? i : best;
                most = Math.max(value, most);
            }
        }
        return best;
    }

    private static int[] nobodies(int size) {
        return new int[] {-1, size, 8, Integer.MIN_VALUE, Integer.MAX_VALUE};
    }

    /** Wives alone, of whom nobody says or hears anything, so that all is as good as all else. */
    private static WhisperSeats silent() {
        WhisperSeats x = Check.tuesday(Check.WIFE, Check.WIFE, Check.WIFE);
        x.set(1, 1, Check.set(3, 4, 9));
        return x;
    }

    /** A park that was asked for the best of ten, each of which was worth far more than secrets known are. */
    private static WhisperSeats askedBefore() {
        WhisperSeats x = silent();
        x.set(0, 1, 1023);
        x.set(0, 5, 9999);
        Check.due("forget(0, 1)", x.forget(0, 1), 0);
        return x;
    }

    private static void kind() {
        Doc.part("Promise 17");
        Doc.says("The KIND as one of which one KNOWS most SECRETS ON n HOURS (1 to 100); of several the least.");
        for (int seed = 0; seed < SEEDS; seed++) {
            kindInDrawnPark(seed);
        }
        for (int kind = 0; kind < 6; kind++) {
            WhisperSeats x = silent();
            x.turn(1, kind);
            Check.due("all alike, being of kind " + kind, x.kind(1, 100), 0);
            Check.due("it stays of its kind", x.of(1, 0), kind);
        }
        Check.due("whatever was asked before", askedBefore().kind(0, 1), 0);
        kindOfOneThatWaits();
        kindOfOneThatMakesDoubt();
        Doc.says("BEYOND.");
        WhisperSeats x = silent();
        int[] wrong = {0, -1, 101, 200, Integer.MIN_VALUE, Integer.MAX_VALUE};
        for (int n : wrong) {
            Check.due("kind(0, " + n + ")", x.kind(0, n), Check.BEYOND);
        }
        for (int nobody : nobodies(3)) {
            Check.due("kind(" + nobody + ", 1)", x.kind(nobody, 1), Check.BEYOND);
        }
    }

    /** At hour 3 one sits down, to whom a spy says something at hour 6: a person has gone by then, and no other kind. */
    private static void kindOfOneThatWaits() {
        WhisperSeats x = Check.tuesday();
        x.hours(3);
        Check.people(x, Check.PERSON, Check.SPY);
        x.set(1, 1, Check.set(5));
        x.sit(0, 0);
        x.sit(1, 1);
        Check.due("at hour 6, which has not gone yet", x.kind(0, 3), 0);
        Check.due("at hour 7", x.kind(0, 4), 1);
        x.hours(1);
        x.sit(1, 1);
        Check.due("an hour that it has sat counts, at hour 7", x.kind(0, 3), 1);
        x.turn(0, Check.GENERAL);
        Check.due("whatever its kind is now", x.kind(0, 3), 1);
    }

    /** A spy alone tells 3 back to one that knows many, just once, at hour 18: that doubts it then, and says 7 instead. */
    private static void kindOfOneThatMakesDoubt() {
        WhisperSeats x = new WhisperSeats();
        Parks.go(x, 137);
        x.sham(Check.set(1, 3, 8));
        Check.people(x, Check.ACTOR, Check.PERSON);
        x.set(0, 1, Check.set(5, 8));
        x.set(1, 1, Check.set(2, 3, 7, 9));
        x.set(1, 2, Check.set(3, 7, 9));
        x.sit(0, 0);
        x.sit(1, 1);
        Check.due("in two hours all is alike", x.kind(0, 2), 0);
        Check.due("in three a spy knows one more", x.kind(0, 3), 5);
    }

    private static void kindInDrawnPark(int seed) {
        int last = Parks.lived(seed).count(0) - 1;
        int[] hours = {1, 2, 99, 100};
        for (int n : hours) {
            int one = n % 2 == 0 ? last : last / 2;
            Check.due("seed " + seed + ": kind(" + one + ", " + n + ")", Parks.lived(seed).kind(one, n),
                best(6, kind -> true, kind -> learntAs(seed, one, kind, n)));
        }
    }

    private static int learntAs(int seed, int one, int kind, int n) {
        WhisperSeats x = Parks.lived(seed);
        x.turn(one, kind);
        x.hours(n);
        return Integer.bitCount(x.of(one, 1));
    }

    private static void forget() {
        Doc.part("Promise 18");
        Doc.says("The SECRET that had best not be KNOWN to one now (one that it KNOWS; forgotten, as if it never had), "
            + "so that HEARD of all together is most ON n HOURS (1 to 60); of several the least.");
        for (int seed = 0; seed < SEEDS; seed++) {
            forgetInDrawnPark(seed);
        }
        WhisperSeats x = silent();
        Check.due("all alike", x.forget(1, 60), 3);
        x.set(1, 1, Check.set(9));
        Check.due("the only one", x.forget(1, 60), 9);
        forgetBesideALover();
        Doc.says("BEYOND.");
        for (int n : NO_WEIGHABLE_HOURS) {
            Check.due("forget(1, " + n + ")", x.forget(1, n), Check.BEYOND);
            Check.due("knowing none, forget(0, " + n + ")", x.forget(0, n), Check.BEYOND);
        }
        for (int nobody : nobodies(3)) {
            Check.due("forget(" + nobody + ", 1)", x.forget(nobody, 1), Check.BEYOND);
        }
        Doc.says("NONE: it KNOWS none.");
        Check.due("forget(0, 1)", x.forget(0, 1), Check.NONE);
        Check.due("forget(0, 60)", x.forget(0, 60), Check.NONE);
        Check.due("forget(2, 60)", x.forget(2, 60), Check.NONE);
    }

    /** A lover that is told of 3, its fourth one, stays and hears an hour longer; of 7 it knows already. */
    private static void forgetBesideALover() {
        WhisperSeats x = Check.pair(Check.GENERAL, Check.set(3, 7), Check.LOVER, Check.set(0, 1, 7));
        Check.due("in four hours all is alike", x.forget(0, 4), 3);
        Check.due("in five the lover is still there, told of 3", x.forget(0, 5), 7);
        Check.due("in six it has come again, told of 7", x.forget(0, 6), 3);
        x.set(0, 2, Check.set(3, 7));
        Check.due("as if it had never believed it either", x.forget(0, 5), 7);
        x.hours(1);
        x.set(1, 1, Check.set(0, 1, 7));
        Check.due("an hour that both have sat counts", x.forget(0, 4), 7);
        Check.due("and no other", x.forget(0, 3), 3);
        x.set(1, 5, 9999);
        Check.due("HEARD that is held to 9999 is no more for it", x.forget(0, 4), 3);
        x.set(1, 5, 9995);
        Check.due("HEARD that comes to 9999 is", x.forget(0, 4), 7);
        x.set(1, 5, 9996);
        Check.due("HEARD that would be held in the last hour isn't", x.forget(0, 4), 3);
    }

    private static void forgetInDrawnPark(int seed) {
        WhisperSeats x = Parks.lived(seed);
        for (int n : WEIGHABLE_HOURS) {
            int one = n % x.count(0);
            int known = x.of(one, 1);
            int due = known == 0 ? Check.NONE
                : best(10, secret -> (known >> secret & 1) == 1, secret -> heardWithout(seed, one, secret, n));
            Check.due("seed " + seed + ": forget(" + one + ", " + n + ")", x.forget(one, n), due);
        }
    }

    private static int heardWithout(int seed, int one, int secret, int n) {
        WhisperSeats x = Parks.lived(seed);
        x.set(one, 1, x.of(one, 1) - (1 << secret));
        return x.hours(n);
    }

    private static void confide() {
        Doc.part("Promise 19");
        Doc.says("The SECRET that one had best be told now (one that it doesn't KNOW; BELIEVED), "
            + "so that it is KNOWN to most ON n HOURS (1 to 60); of several the least.");
        for (int seed = 0; seed < SEEDS; seed++) {
            confideInDrawnPark(seed);
        }
        confideBesideBeliefs();
        WhisperSeats x = silent();
        Check.due("all alike, three known to another one", x.confide(1, 60), 0);
        Check.due("known to another one", x.confide(0, 60), 3);
        x.set(1, 1, Check.set(0, 1, 2));
        Check.due("all alike but known ones", x.confide(1, 60), 3);
        x.set(1, 1, 511);
        Check.due("the only one", x.confide(1, 60), 9);
        Doc.says("BEYOND.");
        x.set(0, 1, 1023);
        for (int n : NO_WEIGHABLE_HOURS) {
            Check.due("confide(1, " + n + ")", x.confide(1, n), Check.BEYOND);
            Check.due("knowing all, confide(0, " + n + ")", x.confide(0, n), Check.BEYOND);
        }
        for (int nobody : nobodies(3)) {
            Check.due("confide(" + nobody + ", 1)", x.confide(nobody, 1), Check.BEYOND);
        }
        Doc.says("NONE: it KNOWS all.");
        Check.due("confide(0, 1)", x.confide(0, 1), Check.NONE);
        Check.due("confide(0, 60)", x.confide(0, 60), Check.NONE);
    }

    /** A secret that comes to others which one believes already: the least of those is said first. */
    private static void confideBesideBeliefs() {
        WhisperSeats x = Check.tuesday(Check.PERSON, Check.WIFE);
        x.set(0, 1, Check.set(2, 5));
        x.set(0, 2, Check.set(2));
        x.sit(0, 0);
        x.sit(1, 1);
        Check.due("0, which is said ahead of 2", x.confide(0, 1), 0);
        x.set(0, 1, Check.set(0, 1, 2));
        x.set(0, 2, Check.set(0, 2));
        x.set(1, 1, Check.set(7));
        Check.due("none is said ahead of 0, and 7 is known over there", x.confide(0, 1), 7);
        x.set(1, 1, 0);
        Check.due("none is said ahead of 0", x.confide(0, 1), 3);
    }

    private static void confideInDrawnPark(int seed) {
        WhisperSeats x = Parks.lived(seed);
        for (int n : WEIGHABLE_HOURS) {
            int one = n % x.count(0);
            int known = x.of(one, 1);
            int due = known == 1023 ? Check.NONE
                : best(10, secret -> (known >> secret & 1) == 0, secret -> spreadFrom(seed, one, secret, n));
            Check.due("seed " + seed + ": confide(" + one + ", " + n + ")", x.confide(one, n), due);
        }
    }

    private static int spreadFrom(int seed, int one, int secret, int n) {
        WhisperSeats x = Parks.lived(seed);
        x.set(one, 1, x.of(one, 1) | 1 << secret);
        x.set(one, 2, x.of(one, 2) | 1 << secret);
        x.hours(n);
        return Integer.bitCount(x.who(secret, 0));
    }

    /** Two generals on the seats on a Tuesday, who talk for nine hours of ten. */
    private static WhisperSeats generals() {
        return Check.pair(Check.GENERAL, Check.set(1), Check.GENERAL, Check.set(2));
    }

    /** After how many hours from that Tuesday on each of the generals has heard so many. */
    private static int hoursOfTalk(int wanted) {
        int heard = 0;
        int hours = 0;
        while (heard < wanted) {
            int hour = 24 + hours;
            boolean talk = hours % 10 != 9 && hour % 24 < 22 && hour / 24 % 7 != 0;
            heard += talk ? 1 : 0;
            hours++;
        }
        return hours;
    }

    private static void enough() {
        Doc.part("Promise 20");
        Doc.says("How many HOURS (0 to 200) ON it takes till one has HEARD v (1 to 99) more.");
        for (int one = 0; one < 2; one++) {
            WhisperSeats x = generals();
            x.set(one, 5, 1234);
            Check.due("enough(" + one + ", 1)", x.enough(one, 1), 1);
            Check.due("enough(" + one + ", 9)", x.enough(one, 9), 9);
            Check.due("enough(" + one + ", 10)", x.enough(one, 10), 11);
            for (int v = 1; v <= 99; v++) {
                Check.due("enough(" + one + ", " + v + ")", x.enough(one, v), hoursOfTalk(v));
            }
        }
        for (int seed = 0; seed < SEEDS; seed++) {
            enoughInDrawnPark(seed);
        }
        enoughBesideALover();
        enoughInJust(200, 200);
        enoughInJust(199, 199);
        WhisperSeats x = generals();
        x.set(0, 5, 9998);
        Check.due("up to 9999", x.enough(0, 1), 1);
        Doc.says("BEYOND.");
        int[] wrong = {0, -1, 100, Integer.MIN_VALUE, Integer.MAX_VALUE};
        for (int v : wrong) {
            Check.due("enough(0, " + v + ")", x.enough(0, v), Check.BEYOND);
        }
        for (int nobody : nobodies(2)) {
            Check.due("enough(" + nobody + ", 1)", x.enough(nobody, 1), Check.BEYOND);
        }
        Doc.says("NONE.");
        Check.due("HEARD is held to 9999", x.enough(0, 2), Check.NONE);
        x.set(0, 5, 9999);
        Check.due("HEARD is 9999", x.enough(0, 1), Check.NONE);
        Check.due("nothing is said", silent().enough(0, 1), Check.NONE);
        enoughInJust(201, Check.NONE);
    }

    private static void enoughInDrawnPark(int seed) {
        WhisperSeats x = Parks.lived(seed);
        int last = x.count(0) - 1;
        int[] heard = new int[201];
        for (int n = 0; n <= 200; n++) {
            heard[n] = Parks.lived(seed, n).of(last, 5);
        }
        int[] wanted = {1, 2, 7};
        for (int v : wanted) {
            int due = Check.NONE;
            for (int n = 200; n >= 0; n--) {
                due = heard[n] >= heard[0] + v ? n : due;
            }
            Check.due("seed " + seed + ": enough(" + last + ", " + v + ")", x.enough(last, v), due);
        }
    }

    private static void enoughBesideALover() {
        WhisperSeats x = Check.pair(Check.GENERAL, Check.set(3, 7), Check.LOVER, Check.set(0, 1, 7));
        Check.due("told of 3, a fourth one, the lover stays five hours", x.enough(1, 5), 5);
        x.set(0, 2, Check.set(7));
        Check.due("told of 7, which it knows, it goes and comes again", x.enough(1, 5), 6);
    }

    /** A wife, who hears a lover now and then, so many hours behind a Tuesday's first. */
    private static WhisperSeats listener(int hours) {
        WhisperSeats x = Check.pair(Check.WIFE, 0, Check.LOVER, Check.set(5));
        Parks.go(x, hours);
        return x;
    }

    /** What the wife will have heard just so many hours ON, where she hears it in the last of them. */
    private static void enoughInJust(int hours, int due) {
        int found = 0;
        for (int from = 0; from < 100; from++) {
            int v = listener(from + hours).of(0, 5) - listener(from).of(0, 5);
            boolean inTheLast = listener(from + hours).of(0, 5) > listener(from + hours - 1).of(0, 5);
            if (inTheLast && v >= 1 && v <= 99) {
                found++;
                Check.due("from hour " + from + ": enough(0, " + v + ")", listener(from).enough(0, v), due);
            }
        }
        Check.due("there are such hours", found > 0 ? 1 : 0, 1);
    }

    private static void doubt() {
        Doc.part("Promise 21");
        Doc.says("The SECRET that, SHAM or not otherwise than it is, makes most BELIEVE in SECRETS "
            + "(counted by PEOPLE, each) ON n HOURS (1 to 60); of several the least.");
        for (int seed = 0; seed < SEEDS; seed++) {
            doubtInDrawnPark(seed);
        }
        Check.due("all alike", silent().doubt(60), 0);
        Check.due("nobody", new WhisperSeats().doubt(1), 0);
        Check.due("nobody, all sham", allSham().doubt(60), 0);
        Doc.says("BEYOND.");
        for (int n : NO_WEIGHABLE_HOURS) {
            Check.due("doubt(" + n + ")", silent().doubt(n), Check.BEYOND);
            Check.due("nobody, doubt(" + n + ")", new WhisperSeats().doubt(n), Check.BEYOND);
        }
    }

    private static WhisperSeats allSham() {
        WhisperSeats x = new WhisperSeats();
        x.sham(1023);
        return x;
    }

    private static void doubtInDrawnPark(int seed) {
        for (int n : WEIGHABLE_HOURS) {
            Check.due("seed " + seed + ": doubt(" + n + ")", Parks.lived(seed).doubt(n),
                best(10, secret -> true, secret -> believedOtherwise(seed, secret, n)));
        }
    }

    private static int believedOtherwise(int seed, int secret, int n) {
        WhisperSeats x = Parks.lived(seed);
        x.sham(x.now(6) ^ 1 << secret);
        x.hours(n);
        return x.count(3);
    }

    private static void wisest() {
        Doc.part("Promise 22");
        Doc.says("Who KNOWS most SECRETS ON n HOURS (0 to 200); of several the least.");
        int[] hours = {0, 1, 2, 100, 199, 200};
        for (int seed = 0; seed < SEEDS; seed++) {
            for (int n : hours) {
                WhisperSeats then = Parks.lived(seed, n);
                Check.due("seed " + seed + ": wisest(" + n + ")", Parks.lived(seed).wisest(n),
                    best(then.count(0), one -> true, one -> Integer.bitCount(then.of(one, 1))));
            }
        }
        WhisperSeats x = new WhisperSeats();
        Check.people(x, 3, 3, 3, 3, 3, 3, 3, 3);
        Check.due("eight that know none", x.wisest(200), 0);
        x.set(7, 1, 512);
        Check.due("the last knows one", x.wisest(200), 7);
        x.set(5, 1, 1);
        Check.due("of two the least", x.wisest(0), 5);
        x.set(7, 1, 1023);
        Check.due("the last knows all", x.wisest(0), 7);
        x = Check.pair(Check.PERSON, Check.set(3, 7), Check.WIFE, Check.set(0, 7));
        Check.due("told of 3, the wife knows more", x.wisest(1), 1);
        x.set(0, 2, Check.set(7));
        Check.due("told of 7, which is believed and known to both, she doesn't", x.wisest(1), 0);
        Check.due("whatever was asked before", askedBefore().wisest(0), 0);
        Doc.says("BEYOND.");
        int[] wrong = {-1, 201, Integer.MIN_VALUE, Integer.MAX_VALUE};
        for (int n : wrong) {
            Check.due("wisest(" + n + ")", x.wisest(n), Check.BEYOND);
            Check.due("nobody, wisest(" + n + ")", new WhisperSeats().wisest(n), Check.BEYOND);
        }
        Doc.says("NONE: nobody is there.");
        Check.due("wisest(0)", new WhisperSeats().wisest(0), Check.NONE);
        Check.due("wisest(200)", new WhisperSeats().wisest(200), Check.NONE);
    }
}
