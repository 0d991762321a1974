import java.util.LinkedHashMap;
import java.util.List;
import java.util.Map;
import java.util.TreeSet;
import java.util.function.Consumer;
import java.util.function.ToLongFunction;

/** All that an object holds, told by its own answers, so that an act can be seen to change just what it should. */
final class Whole {
    /** Of these, 8, 16 and 64 bits keep different numbers. */
    private static final long BITS = 0x0123456789abcdefL;
    /** What follows from all else: what the people are like when THE TAPE has been read. */
    private static final String BEHIND_THE_TEXT = "behind the text";

    /** What count, now and of tell of a rich park, and of its image when THE TAPE is empty. */
    private static final int[][] PARK = {{5, 18, 82, 4}, {32, 8, 0, 4, 3, 0, 132, 4},
        {0, 274, 16, -1, 0, 0, 4, 3}, {5, 529, 16, -1, 0, 3, -1, 6}, {4, 28, 20, -1, 0, 2, -1, 4},
        {2, 0, 0, 1, 1, 77, 2, 9}, {1, 0, 0, 0, 0, 0, -1, 4}};
    private static final int[][] IMAGE = {{5, 0, 1, 2}, {26, 2, 0, 0, 1, 0, 132, 1},
        {0, 274, 16, 0, 1, 0, 4, 3}, {5, 529, 16, 1, 1, 1, -1, 6}, {4, 8, 0, -1, 0, 0, -1, 4},
        {2, 0, 0, -1, 0, 0, 2, 9}, {3, 0, 0, -1, 0, 0, -1, 6}};
    /** What sheets 0 to 2 keep of BITS, ahead of their numbers; the last one is missing. */
    private static final long[][] SHEETS = {{-12817, 0, 513, 0}, {-17, -56, 0}, thirdSheet()};

    private Whole() {
    }

    /** A park with something of everything: people of all kinds, a tape, sheets, another image. */
    static WhisperSeats rich() {
        WhisperSeats x = Check.tuesday(Check.PERSON, Check.SPY, Check.LOVER, Check.GENERAL, Check.WIFE);
        x.sham(Check.set(2, 7));
        x.set(0, 1, Check.set(1, 4, 8));
        x.set(0, 2, Check.set(4));
        x.set(1, 1, Check.set(0, 9));
        x.set(2, 1, Check.set(3));
        x.hours(2);
        x.image();
        x.hours(6);
        x.turn(4, Check.ACTOR);
        x.set(3, 5, 77);
        x.sheet(0, 16, 3);
        x.write(0, 1, 513);
        x.sheet(1, 8, 2);
        x.write(1, 0, 200);
        x.sheet(2, 64, 40);
        x.write(2, 39, BITS);
        Check.feed(x, "sham 5;spy knows 3");
        return x;
    }

    private static long[] thirdSheet() {
        long[] sheet = new long[41];
        sheet[0] = BITS;
        sheet[40] = BITS;
        return sheet;
    }

    /** A rich park as it must be, whatever the calls that make it do. */
    private static Map<String, String> due() {
        Map<String, String> due = new LinkedHashMap<>(people(PARK));
        for (int s = 0; s < SHEETS.length; s++) {
            due.put("sheet " + s + " keeps", "" + SHEETS[s][0]);
            for (int i = 1; i < SHEETS[s].length; i++) {
                due.put("sheet " + s + " number " + (i - 1), "" + SHEETS[s][i]);
            }
            due.put("sheet " + s + " size", "" + (SHEETS[s].length - 1));
        }
        due.put("sheet 3 keeps", "" + Check.MISSING);
        due.put("sheet 3 size", "missing");
        due.put("text", "2");
        due.put("image", people(IMAGE).toString());
        return due;
    }

    private static Map<String, String> people(int[][] told) {
        Map<String, String> people = new LinkedHashMap<>();
        for (int row = 0; row < told.length; row++) {
            for (int what = 0; what < told[row].length; what++) {
                String call = row == 0 ? "count(" : row == 1 ? "now(" : "of(" + (row - 2) + ", ";
                people.put(call + what + ")", "" + told[row][what]);
            }
        }
        return people;
    }

    /** Each thing by its name. Asks so much that the object is of no use behind it. */
    private static Map<String, String> told(WhisperSeats x) {
        Map<String, String> told = new LinkedHashMap<>(people(x));
        for (int s = 0; s < 4; s++) {
            sheet(x, s, told);
        }
        told.put("text", "" + x.park());
        told.put(BEHIND_THE_TEXT, people(x).toString());
        told.put("image", x.undo() == Check.NONE ? "none" : people(x).toString());
        return told;
    }

    static String of(WhisperSeats x) {
        return told(x).toString();
    }

    private static Map<String, String> people(WhisperSeats x) {
        Map<String, String> told = new LinkedHashMap<>();
        for (int what = 0; what < 4; what++) {
            told.put("count(" + what + ")", "" + x.count(what));
        }
        for (int what = 0; what < 8; what++) {
            told.put("now(" + what + ")", "" + x.now(what));
        }
        int people = x.count(0);
        for (int i = 0; i < people; i++) {
            for (int what = 0; what < 8; what++) {
                told.put("of(" + i + ", " + what + ")", "" + x.of(i, what));
            }
        }
        return told;
    }

    private static void sheet(WhisperSeats x, int s, Map<String, String> told) {
        for (int i = 0; i < 41; i++) {
            long number = x.write(s, i, BITS);
            if (number == Check.BEYOND || number == Check.MISSING) {
                told.put("sheet " + s + " size", number == Check.MISSING ? "missing" : "" + i);
                break;
            }
            told.put("sheet " + s + " number " + i, "" + number);
        }
        told.put("sheet " + s + " keeps", "" + x.write(s, 0, 0));
    }

    /** The act answers this finding on a rich park, prepared first; it is counted, and all else stays. */
    static void refuses(String call, Consumer<WhisperSeats> prepare, ToLongFunction<WhisperSeats> act, long finding) {
        WhisperSeats x = rich();
        WhisperSeats twin = rich();
        prepare.accept(x);
        prepare.accept(twin);
        Check.due(call, act.applyAsLong(x), finding);
        Check.due(call + ", then status(-1)", x.status(-1), twin.status(-1) + 1);
        for (int which = 0; which < 7; which++) {
            int counted = finding == -1000000001 - which ? 1 : 0;
            Check.due(call + ", then status(" + which + ")", x.status(which), twin.status(which) + counted);
        }
        same(call, x, twin);
    }

    static void refuses(String call, ToLongFunction<WhisperSeats> act, long finding) {
        refuses(call, x -> { }, act, finding);
    }

    /** The question is answered on a rich park, and nothing at all is changed by it. */
    static void onlyAnswers(String call, ToLongFunction<WhisperSeats> question) {
        WhisperSeats x = rich();
        WhisperSeats twin = rich();
        Check.due(call + " is no finding", question.applyAsLong(x) > -1000000000 ? 1 : 0, 1);
        Check.due(call + ", then status(-1)", x.status(-1), twin.status(-1));
        same(call, x, twin);
    }

    private static void same(String call, WhisperSeats x, WhisperSeats twin) {
        String told = of(x);
        String due = of(twin);
        Check.due(call + " leaves all as it was", told.equals(due) ? 1 : 0, 1);
        if (!told.equals(due)) {
            System.out.println("it was: " + due + "\nit is: " + told);
        }
    }

    /**
     * The act answers this on a rich park, without a finding, and changes just these things, each told as
     * "name=value"; a value of "other" stands for any but what it was, "gone" for a thing that there isn't any more.
     */
    static void changes(String call, ToLongFunction<WhisperSeats> act, long answer, String... changes) {
        WhisperSeats x = rich();
        Check.due(call, act.applyAsLong(x), answer);
        Check.due(call + ", then status(-1)", x.status(-1), 0);
        TreeSet<String> got = difference(due(), told(x), List.of(changes));
        TreeSet<String> due = new TreeSet<>(List.of(changes));
        Check.due(call + " changes just what it should", got.equals(due) ? 1 : 0, 1);
        if (!got.equals(due)) {
            System.out.println("due is: " + due + "\nit changes: " + got);
        }
    }

    private static TreeSet<String> difference(Map<String, String> was, Map<String, String> is, List<String> due) {
        TreeSet<String> names = new TreeSet<>(was.keySet());
        names.addAll(is.keySet());
        names.remove(BEHIND_THE_TEXT);
        TreeSet<String> difference = new TreeSet<>();
        for (String name : names) {
            String value = is.getOrDefault(name, "gone");
            if (!value.equals(was.get(name))) {
                difference.add(name + "=" + (due.contains(name + "=other") ? "other" : value));
            }
        }
        return difference;
    }
}
