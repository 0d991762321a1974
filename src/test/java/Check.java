/** What all test programs share: counting the answers that aren't due, and ending with them. */
final class Check {
    static final int BEYOND = -1000000001;
    static final int FULL = -1000000002;
    static final int KIND = -1000000003;
    static final int NONE = -1000000004;
    static final int STATE = -1000000005;
    static final int MISSING = -1000000006;
    static final int SIZE = -1000000007;

    static final int PERSON = 0;
    static final int ACTOR = 1;
    static final int GENERAL = 2;
    static final int WIFE = 3;
    static final int LOVER = 4;
    static final int SPY = 5;

    /** What stands ahead of an answer that isn't due, where it is told. */
    static String context = "";

    private static int asked = 0;
    private static int wrong = 0;

    private Check() {
    }

    static void due(String call, long got, long want) {
        asked++;
        if (got != want) {
            wrong++;
            System.out.println(context + call + " answered " + got + ", due is " + want);
        }
    }

    static int asked() {
        return asked;
    }

    static void end() {
        System.out.println(asked + " answers, " + wrong + " not as due");
        if (wrong != 0 || asked == 0) {
            System.exit(1);
        }
    }

    /** A park on a Tuesday at hour 0 of the day, with people of these kinds. */
    static WhisperSeats tuesday(int... kinds) {
        WhisperSeats x = new WhisperSeats();
        x.hours(24);
        people(x, kinds);
        return x;
    }

    /** One on each seat, 0 first, at hour 0 of a Tuesday. */
    static WhisperSeats pair(int first, int firstKnows, int second, int secondKnows) {
        WhisperSeats x = tuesday(first, second);
        x.set(0, 1, firstKnows);
        x.set(1, 1, secondKnows);
        x.sit(0, 0);
        x.sit(1, 1);
        return x;
    }

    static void people(WhisperSeats x, int... kinds) {
        for (int kind : kinds) {
            x.person(kind);
        }
    }

    static int set(int... secrets) {
        int set = 0;
        for (int secret : secrets) {
            set |= 1 << secret;
        }
        return set;
    }

    static void feed(WhisperSeats x, String text) {
        for (int i = 0; i < text.length(); i++) {
            x.feed(text.charAt(i), 1);
        }
    }

    static int park(WhisperSeats x, String text) {
        feed(x, text);
        return x.park();
    }
}
