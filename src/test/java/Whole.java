import java.util.function.Consumer;
import java.util.function.ToLongFunction;

/** All that an object holds, told by its own answers, so that an act can be seen to change nothing. */
final class Whole {
    /** Of these, 8, 16 and 64 bits keep different numbers. */
    private static final long BITS = 0x0123456789abcdefL;

    private Whole() {
    }

    /** A park with something of everything: people of all kinds, a tape, sheets, another image. */
    static WhisperSeats rich() {
        WhisperSeats x = Check.tuesday(Check.PERSON, Check.SPY, Check.LOVER, Check.GENERAL, Check.WIFE);
        x.sham(Check.set(2, 7));
        x.set(0, 1, Check.set(1, 4, 8));
        x.set(0, 2, Check.set(4));
        x.set(1, 1, Check.set(0, 9));
        x.set(2, 1, Check.set(3));
        x.hours(2);
        x.image();
        x.hours(6);
        x.turn(4, Check.ACTOR);
        x.set(3, 5, 77);
        x.sheet(0, 16, 3);
        x.write(0, 1, 513);
        x.sheet(1, 8, 2);
        x.write(1, 0, 200);
        x.sheet(2, 64, 40);
        x.write(2, 39, BITS);
        Check.feed(x, "sham 5;spy knows 3");
        return x;
    }

    /** Asks so much that the object is of no use behind it. */
    static String of(WhisperSeats x) {
        StringBuilder told = new StringBuilder();
        people(x, told);
        for (int s = 0; s < 4; s++) {
            sheet(x, s, told);
        }
        told.append("\ntext ").append(x.park());
        people(x, told);
        told.append("\nundone ").append(x.undo());
        people(x, told);
        return told.toString();
    }

    private static void people(WhisperSeats x, StringBuilder told) {
        told.append("\ncount");
        for (int what = 0; what < 4; what++) {
            told.append(' ').append(x.count(what));
        }
        told.append("\nnow");
        for (int what = 0; what < 8; what++) {
            told.append(' ').append(x.now(what));
        }
        int people = x.count(0);
        for (int i = 0; i < people; i++) {
            told.append("\nof ").append(i);
            for (int what = 0; what < 8; what++) {
                told.append(' ').append(x.of(i, what));
            }
        }
    }

    private static void sheet(WhisperSeats x, int s, StringBuilder told) {
        told.append("\nsheet ").append(s);
        for (int i = 0; i < 41; i++) {
            long number = x.write(s, i, BITS);
            told.append(' ').append(number);
            if (number == Check.BEYOND || number == Check.MISSING) {
                break;
            }
        }
        told.append(" bits ").append(x.write(s, 0, 0));
    }

    /** The act answers this finding on a rich park, prepared first; it is counted, and all else stays. */
    static void refuses(String call, Consumer<WhisperSeats> prepare, ToLongFunction<WhisperSeats> act, long finding) {
        WhisperSeats x = rich();
        WhisperSeats twin = rich();
        prepare.accept(x);
        prepare.accept(twin);
        Check.due(call, act.applyAsLong(x), finding);
        Check.due(call + ", then status(-1)", x.status(-1), twin.status(-1) + 1);
        for (int which = 0; which < 7; which++) {
            int counted = finding == -1000000001 - which ? 1 : 0;
            Check.due(call + ", then status(" + which + ")", x.status(which), twin.status(which) + counted);
        }
        same(call, x, twin);
    }

    static void refuses(String call, ToLongFunction<WhisperSeats> act, long finding) {
        refuses(call, x -> { }, act, finding);
    }

    /** The question is answered on a rich park, and nothing at all is changed by it. */
    static void onlyAnswers(String call, ToLongFunction<WhisperSeats> question) {
        WhisperSeats x = rich();
        WhisperSeats twin = rich();
        Check.due(call + " is no finding", question.applyAsLong(x) > -1000000000 ? 1 : 0, 1);
        Check.due(call + ", then status(-1)", x.status(-1), twin.status(-1));
        same(call, x, twin);
    }

    private static void same(String call, WhisperSeats x, WhisperSeats twin) {
        String told = of(x);
        String due = of(twin);
        Check.due(call + " leaves all as it was", told.equals(due) ? 1 : 0, 1);
        if (!told.equals(due)) {
            System.out.println("it was:" + due + "\nit is:" + told);
        }
    }
}
