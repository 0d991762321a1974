/** Promises 26 to 31, a test for each sentence. */
public final class SentencesOfSheetsTest {
    private static final int[] BITS = {8, 16, 64};
    private static final int[] NO_SHEETS = {-1, 4, Integer.MIN_VALUE, Integer.MAX_VALUE};
    /** In a park of two. */
    private static final int[] NOBODIES = {-1, 2, 8, Integer.MIN_VALUE, Integer.MAX_VALUE};
    private static final int SEEDS = 25;

    public static void main(String[] args) {
        sheet();
        sheetFindings();
        write();
        writeFindings();
        copy();
        copyFindings();
        lays();
        book();
        bookFindings();
        read();
        readFindings();
        Doc.end();
    }

    /** The number stays as it is. */
    private static long number(WhisperSeats x, int s, int i) {
        long number = x.write(s, i, 0);
        if (number != Check.BEYOND && number != Check.MISSING) {
            x.write(s, i, number);
        }
        return number;
    }

    private static void row(WhisperSeats x, int s, long... numbers) {
        for (int i = 0; i < numbers.length; i++) {
            x.write(s, i, numbers[i]);
        }
    }

    private static void dueRow(String when, WhisperSeats x, int s, long... numbers) {
        for (int i = 0; i < numbers.length; i++) {
            Check.due(when + ": number " + i, number(x, s, i), numbers[i]);
        }
    }

    private static void sheet() {
        Doc.part("Promise 26");
        Doc.says("A sheet has n numbers, all 0, of 8, 16 or 64 bits; bits 0: it is MISSING: n (0 if it is MISSING).");
        WhisperSeats x = new WhisperSeats();
        for (int s = 0; s < 4; s++) {
            for (int bits : BITS) {
                Check.due("sheet(" + s + ", " + bits + ", 40)", x.sheet(s, bits, 40), 40);
                Check.due("the last number", x.write(s, 39, -1), 0);
                Check.due("the first number", x.write(s, 0, -1), 0);
                Check.due("sheet(" + s + ", " + bits + ", 1)", x.sheet(s, bits, 1), 1);
                Check.due("0 again", x.write(s, 0, 1), 0);
                Check.due("no second number", x.write(s, 1, 1), Check.BEYOND);
                Check.due("sheet(" + s + ", " + bits + ", 0)", x.sheet(s, bits, 0), 0);
                Check.due("no number", x.write(s, 0, 1), Check.BEYOND);
            }
            Check.due("sheet(" + s + ", 0, 0)", x.sheet(s, 0, 0), 0);
            Check.due("MISSING", x.write(s, 0, 1), Check.MISSING);
            Check.due("sheet(" + s + ", 0, 40)", x.sheet(s, 0, 40), 0);
            Check.due("MISSING still", x.write(s, 0, 1), Check.MISSING);
        }
        Check.due("40 again", x.sheet(0, 16, 40), 40);
        Check.due("all 0, also the last", x.write(0, 39, 5), 0);
        Check.due("fewer", x.sheet(0, 16, 39), 39);
        Check.due("and 40 again", x.sheet(0, 16, 40), 40);
        Check.due("all 0, also those that were cut off", x.write(0, 39, 5), 0);
        Check.due("another sheet is still MISSING", x.write(1, 0, 5), Check.MISSING);
        Whole.changes("sheet(0, 64, 2)", y -> y.sheet(0, 64, 2), 2, "sheet 0 size=2", "sheet 0 number 1=0",
            "sheet 0 number 2=gone", "sheet 0 keeps=81985529216486895");
        Whole.changes("sheet(1, 0, 2)", y -> y.sheet(1, 0, 2), 0, "sheet 1 size=missing", "sheet 1 number 0=gone",
            "sheet 1 number 1=gone", "sheet 1 keeps=-1000000006");
        Whole.changes("sheet(3, 8, 1)", y -> y.sheet(3, 8, 1), 1, "sheet 3 size=1", "sheet 3 number 0=0", "sheet 3 keeps=-17");
    }

    private static void sheetFindings() {
        WhisperSeats x = new WhisperSeats();
        x.sheet(0, 16, 3);
        row(x, 0, 7, 8, 9);
        Doc.says("BEYOND: no such sheet, other bits.");
        for (int s : NO_SHEETS) {
            Check.due("sheet(" + s + ", 8, 1)", x.sheet(s, 8, 1), Check.BEYOND);
            Check.due("sheet(" + s + ", 8, -1)", x.sheet(s, 8, -1), Check.BEYOND);
            Check.due("sheet(" + s + ", 0, 0)", x.sheet(s, 0, 0), Check.BEYOND);
        }
        int[] others = {-64, -16, -8, -1, 1, 7, 9, 15, 17, 32, 63, 65, Integer.MIN_VALUE, Integer.MAX_VALUE};
        for (int bits : others) {
            Check.due("sheet(0, " + bits + ", 1)", x.sheet(0, bits, 1), Check.BEYOND);
            Check.due("sheet(0, " + bits + ", -1)", x.sheet(0, bits, -1), Check.BEYOND);
        }
        Doc.says("SIZE: n is below 0 (also with bits 0).");
        int[] all = {0, 8, 16, 64};
        for (int bits : all) {
            Check.due("sheet(0, " + bits + ", -1)", x.sheet(0, bits, -1), Check.SIZE);
            Check.due("sheet(0, " + bits + ", min)", x.sheet(0, bits, Integer.MIN_VALUE), Check.SIZE);
        }
        dueRow("as it was", x, 0, 7, 8, 9);
        Doc.says("BEYOND: n is above 40 (also with bits 0).");
        for (int bits : all) {
            Check.due("sheet(0, " + bits + ", 41)", x.sheet(0, bits, 41), Check.BEYOND);
            Check.due("sheet(0, " + bits + ", max)", x.sheet(0, bits, Integer.MAX_VALUE), Check.BEYOND);
        }
        dueRow("as it was", x, 0, 7, 8, 9);
    }

    private static void write() {
        Doc.part("Promise 27");
        Doc.says("Number i of a sheet becomes v (its lowest bits): what it was.");
        long[] values = {0, 1, 127, 128, 255, 256, 32767, 32768, 65535, 65536, -1, -128, -129, -32768, -32769,
            Long.MAX_VALUE, Long.MIN_VALUE, 1L << 32, -1000000001L, -1000000006L};
        for (int bits : BITS) {
            for (int i = 0; i < 40; i += 39) {
                WhisperSeats x = new WhisperSeats();
                x.sheet(3, bits, 40);
                long was = 0;
                for (long v : values) {
                    Check.due(bits + " bits: write(3, " + i + ", " + v + ")", x.write(3, i, v), was);
                    was = v << 64 - bits >> 64 - bits;
                }
                Check.due(bits + " bits: the last", x.write(3, i, 0), was);
                Check.due(bits + " bits: another number", x.write(3, 20, 0), 0);
                Check.due(bits + " bits: no finding", x.status(-1), 0);
            }
        }
        Whole.changes("write(0, 2, 70000)", y -> y.write(0, 2, 70000), 0, "sheet 0 number 2=4464");
    }

    private static void writeFindings() {
        WhisperSeats x = new WhisperSeats();
        x.sheet(0, 64, 5);
        x.sheet(1, 64, 0);
        row(x, 0, 1, 2, 3, 4, 5);
        Doc.says("BEYOND: no such sheet.");
        for (int s : NO_SHEETS) {
            Check.due("write(" + s + ", 0, 1)", x.write(s, 0, 1), Check.BEYOND);
        }
        Doc.says("MISSING.");
        int[] numbers = {-1, 0, 39, 40, Integer.MIN_VALUE, Integer.MAX_VALUE};
        for (int i : numbers) {
            Check.due("write(2, " + i + ", 1)", x.write(2, i, 1), Check.MISSING);
        }
        Doc.says("BEYOND: no such number.");
        int[] none = {-1, 5, 39, 40, Integer.MIN_VALUE, Integer.MAX_VALUE};
        for (int i : none) {
            Check.due("write(0, " + i + ", 1)", x.write(0, i, 1), Check.BEYOND);
        }
        Check.due("of none, write(1, 0, 1)", x.write(1, 0, 1), Check.BEYOND);
        Check.due("of none, write(1, -1, 1)", x.write(1, -1, 1), Check.BEYOND);
        dueRow("as it was", x, 0, 1, 2, 3, 4, 5);
    }

    private static void copy() {
        Doc.part("Promise 28");
        Doc.says("n numbers of a sheet from one on come to another one from one on (as they all were): n.");
        for (int bits : BITS) {
            WhisperSeats x = new WhisperSeats();
            x.sheet(0, bits, 5);
            x.sheet(3, bits, 4);
            row(x, 0, -1, -2, 3, 4, 5);
            row(x, 3, 9, 9, 9, 9);
            Check.due("none, from and to the end", x.copy(0, 5, 3, 4, 0), 0);
            Check.due("none, from and to the beginning", x.copy(0, 0, 3, 0, 0), 0);
            dueRow("none came", x, 3, 9, 9, 9, 9);
            Check.due("one, the last to the last", x.copy(0, 4, 3, 3, 1), 1);
            dueRow("one came", x, 3, 9, 9, 9, 5);
            Check.due("as many as it has", x.copy(0, 0, 3, 0, 4), 4);
            dueRow("four came", x, 3, -1, -2, 3, 4);
            Check.due("two", x.copy(0, 3, 3, 1, 2), 2);
            dueRow("two came", x, 3, -1, 4, 5, 4);
            dueRow("where they came from", x, 0, -1, -2, 3, 4, 5);
        }
        ontoItself();
        whole();
    }

    private static void ontoItself() {
        WhisperSeats x = new WhisperSeats();
        x.sheet(2, 16, 5);
        row(x, 2, 1, 2, 3, 4, 5);
        Check.due("onto itself", x.copy(2, 0, 2, 0, 5), 5);
        dueRow("the same", x, 2, 1, 2, 3, 4, 5);
        Check.due("one further", x.copy(2, 0, 2, 1, 4), 4);
        dueRow("as they all were", x, 2, 1, 1, 2, 3, 4);
        Check.due("one nearer", x.copy(2, 1, 2, 0, 4), 4);
        dueRow("as they all were", x, 2, 1, 2, 3, 4, 4);
    }

    private static void whole() {
        WhisperSeats x = new WhisperSeats();
        x.sheet(0, 64, 40);
        x.sheet(1, 64, 40);
        x.write(0, 0, 7);
        x.write(0, 39, Long.MIN_VALUE);
        Check.due("forty", x.copy(0, 0, 1, 0, 40), 40);
        Check.due("the first", x.write(1, 0, 0), 7);
        Check.due("the last", x.write(1, 39, 0), Long.MIN_VALUE);
        Whole.changes("copy(0, 1, 0, 0, 1)", y -> y.copy(0, 1, 0, 0, 1), 1, "sheet 0 number 0=513");
    }

    private static void copyFindings() {
        WhisperSeats x = new WhisperSeats();
        x.sheet(0, 16, 5);
        x.sheet(1, 16, 4);
        x.sheet(2, 8, 5);
        row(x, 0, 1, 2, 3, 4, 5);
        Doc.says("BEYOND: no such sheet (either).");
        for (int s : NO_SHEETS) {
            Check.due("from sheet " + s, x.copy(s, 0, 0, 0, 1), Check.BEYOND);
            Check.due("to sheet " + s, x.copy(0, 0, s, 0, 1), Check.BEYOND);
            Check.due("from sheet " + s + " to a missing one", x.copy(s, 0, 3, 0, 1), Check.BEYOND);
            Check.due("from a missing one to sheet " + s, x.copy(3, 0, s, 0, 1), Check.BEYOND);
            Check.due("from and to sheet " + s, x.copy(s, 0, s, 0, 1), Check.BEYOND);
        }
        Doc.says("MISSING: one is.");
        Check.due("from a missing one", x.copy(3, 0, 0, 0, 1), Check.MISSING);
        Check.due("to a missing one", x.copy(0, 0, 3, 0, 1), Check.MISSING);
        Check.due("from and to a missing one", x.copy(3, 0, 3, 0, 0), Check.MISSING);
        Check.due("from a missing one, below 0", x.copy(3, -1, 0, -1, -1), Check.MISSING);
        Doc.says("KIND: they are not of as many bits.");
        Check.due("16 to 8", x.copy(0, 0, 2, 0, 1), Check.KIND);
        Check.due("8 to 16", x.copy(2, 0, 0, 0, 1), Check.KIND);
        Check.due("none, 8 to 16", x.copy(2, 0, 0, 0, 0), Check.KIND);
        Check.due("too many, 8 to 16", x.copy(2, 0, 0, 0, 41), Check.KIND);
        Check.due("below 0, 8 to 16", x.copy(2, -1, 0, -1, -1), Check.KIND);
        Doc.says("BEYOND: one has not so many, or from, to or n is below 0.");
        int max = Integer.MAX_VALUE;
        int min = Integer.MIN_VALUE;
        int[][] spans = {{0, 0, 5}, {1, 0, 5}, {2, 0, 4}, {0, 1, 4}, {5, 0, 1}, {0, 4, 1}, {6, 0, 0}, {0, 5, 0}, {-1, 0, 1},
            {0, -1, 1}, {0, 0, -1}, {-1, 0, 0}, {0, -1, 0}, {max, 0, 1}, {0, max, 1}, {0, 0, max}, {1, 1, max},
            {max, max, max}, {max, 0, 0}, {min, 0, 1}, {0, min, 1}, {0, 0, min}, {min, min, min}, {5, 4, -1}};
        for (int[] span : spans) {
            String call = "copy(0, " + span[0] + ", 1, " + span[1] + ", " + span[2] + ")";
            Check.due(call, x.copy(0, span[0], 1, span[1], span[2]), Check.BEYOND);
        }
        dueRow("nothing came", x, 1, 0, 0, 0, 0);
        dueRow("nothing went", x, 0, 1, 2, 3, 4, 5);
    }

    private static void lays() {
        Doc.part("Promise 29");
        Doc.says("Numbers of a sheet become what PEOPLE 0, 1, .. KNOW, as sets (as told by set(); those that aren't 0 to 1023, "
            + "or stand for none, are left out): how many came.");
        WhisperSeats x = new WhisperSeats();
        x.sheet(0, 64, 40);
        Check.due("numbers stand for nobody", x.lays(0), 0);
        Check.people(x, 0, 1, 2, 3, 4, 5, 0, 1);
        for (int i = 0; i < 8; i++) {
            x.set(i, 1, 15);
            x.set(i, 2, 5);
        }
        row(x, 0, 0, 1023, -1, 1024, Long.MIN_VALUE, 1L << 32, 4, 16, 3, 3);
        Check.due("four of eight, and some for none", x.lays(0), 4);
        int[] known = {0, 1023, 15, 15, 15, 15, 4, 16};
        int[] believed = {0, 5, 5, 5, 5, 5, 4, 0};
        for (int i = 0; i < 8; i++) {
            Check.due("known to " + i, x.of(i, 1), known[i]);
            Check.due("believed by " + i, x.of(i, 2), believed[i]);
        }
        Check.due("heard by nobody", x.count(2), 0);
        laysOfFewBits();
        Whole.changes("lays(0)", y -> y.lays(0), 3, "of(0, 1)=0", "of(0, 2)=0", "of(0, 6)=-1", "of(1, 1)=513", "of(1, 2)=0",
            "of(2, 1)=0", "of(2, 2)=0", "count(3)=0");
        Doc.says("BEYOND: no such sheet.");
        for (int s : NO_SHEETS) {
            Check.due("lays(" + s + ")", x.lays(s), Check.BEYOND);
        }
        Doc.says("MISSING.");
        for (int s = 1; s < 4; s++) {
            Check.due("lays(" + s + ")", x.lays(s), Check.MISSING);
        }
        x.sheet(0, 0, 0);
        Check.due("lays(0), MISSING again", x.lays(0), Check.MISSING);
    }

    private static void laysOfFewBits() {
        WhisperSeats x = new WhisperSeats();
        Check.people(x, 0, 0, 0);
        x.sheet(1, 8, 3);
        row(x, 1, 127, 128, 256);
        Check.due("of 8 bits 128 is below 0, and 256 is 0", x.lays(1), 2);
        Check.due("known", x.of(0, 1) + 1024 * x.of(1, 1), 127);
        x.sheet(1, 16, 2);
        row(x, 1, 1023, 65535);
        Check.due("of 16 bits 65535 is below 0", x.lays(1), 1);
        Check.due("known to 0", x.of(0, 1), 1023);
        x.sheet(1, 16, 0);
        Check.due("a sheet of none", x.lays(1), 0);
        x.sheet(1, 16, 1);
        Check.due("one number for three", x.lays(1), 1);
        Check.due("known to 0", x.of(0, 1), 0);
    }

    /** A person that knows 0 on seat 0 and an actor that knows 8 on seat 1, on a Tuesday. */
    private static WhisperSeats talkers() {
        return Check.pair(Check.PERSON, Check.set(0), Check.ACTOR, Check.set(8));
    }

    private static void book() {
        Doc.part("Promise 30");
        Doc.says("A book: what one KNOWS (as a set) ON 0, 1, 2, .. HOURS comes to a sheet, as many as it has numbers: how many.");
        for (int seed = 0; seed < SEEDS; seed++) {
            WhisperSeats x = Parks.lived(seed);
            int last = x.count(0) - 1;
            x.sheet(2, 64, 40);
            Check.due("seed " + seed + ": book(2, " + last + ")", x.book(2, last), 40);
            for (int i = 0; i < 40; i++) {
                Check.due("seed " + seed + ": number " + i, number(x, 2, i), Parks.lived(seed, i).of(last, 1));
            }
        }
        WhisperSeats x = talkers();
        for (int bits : BITS) {
            x.sheet(0, bits, 0);
            Check.due("a sheet of none", x.book(0, 0), 0);
            x.sheet(0, bits, 1);
            Check.due("a sheet of one", x.book(0, 0), 1);
            dueRow("what it knows now", x, 0, 1);
            x.sheet(0, bits, 3);
            Check.due("a sheet of three", x.book(0, 0), 3);
            dueRow(bits + " bits", x, 0, 1, bits == 8 ? 1 : 257, bits == 8 ? 1 : 257);
        }
        x.set(0, 1, 1023);
        x.sheet(0, 8, 1);
        x.book(0, 0);
        dueRow("all ten, the lowest bits of it", x, 0, -1);
        Check.due("HOUR", x.now(0), 24);
        Check.due("HEARD", x.count(2), 0);
        Whole.changes("book(0, 4)", y -> y.book(0, 4), 3, "sheet 0 number 1=4", "sheet 0 number 2=4");
    }

    private static void bookFindings() {
        WhisperSeats x = talkers();
        x.sheet(0, 16, 2);
        row(x, 0, 5, 6);
        Doc.says("BEYOND: no such sheet.");
        for (int s : NO_SHEETS) {
            Check.due("book(" + s + ", 0)", x.book(s, 0), Check.BEYOND);
            Check.due("book(" + s + ", -1)", x.book(s, -1), Check.BEYOND);
        }
        Doc.says("MISSING.");
        Check.due("book(1, 0)", x.book(1, 0), Check.MISSING);
        for (int nobody : NOBODIES) {
            Check.due("book(1, " + nobody + ")", x.book(1, nobody), Check.MISSING);
        }
        Doc.says("BEYOND: person.");
        for (int nobody : NOBODIES) {
            Check.due("book(0, " + nobody + ")", x.book(0, nobody), Check.BEYOND);
        }
        x.sheet(2, 16, 0);
        Check.due("of none, book(2, 2)", x.book(2, 2), Check.BEYOND);
        dueRow("nothing came", x, 0, 5, 6);
    }

    private static void read() {
        Doc.part("Promise 31");
        Doc.says("THE READER: numbers of a sheet are what one KNOWS (as a set) ON 0, 1, 2, .. HOURS: "
            + "how many pairs of a KIND of it and a KIND of another one make it just so.");
        for (int seed = 0; seed < SEEDS; seed++) {
            WhisperSeats x = Parks.lived(seed);
            int last = x.count(0) - 1;
            x.sheet(1, 16, 40);
            x.book(1, last);
            Check.due("seed " + seed + ": read(1, " + last + ", 0)", x.read(1, last, 0), pairs(seed, last, 0));
            x.book(1, 0);
            Check.due("seed " + seed + ": read(1, 0, 1)", x.read(1, 0, 1), pairs(seed, 0, 1));
        }
        readOfFew();
    }

    /** How many pairs write the book that is written in a drawn park as it is. */
    private static int pairs(int seed, int one, int other) {
        String written = bookOf(Parks.lived(seed), one);
        int pairs = 0;
        for (int kind = 0; kind < 6; kind++) {
            for (int otherKind = 0; otherKind < 6; otherKind++) {
                WhisperSeats x = Parks.lived(seed);
                x.turn(one, kind);
                x.turn(other, otherKind);
                pairs += bookOf(x, one).equals(written) ? 1 : 0;
            }
        }
        return pairs;
    }

    private static String bookOf(WhisperSeats x, int one) {
        StringBuilder written = new StringBuilder();
        x.sheet(0, 16, 40);
        x.book(0, one);
        for (int i = 0; i < 40; i++) {
            written.append(x.write(0, i, 0)).append(' ');
        }
        return written.toString();
    }

    private static void readOfFew() {
        WhisperSeats x = talkers();
        for (int bits : BITS) {
            x.sheet(0, bits, 0);
            Check.due("nothing told", x.read(0, 0, 1), 36);
            x.sheet(0, bits, 1);
            row(x, 0, 1);
            Check.due("what it knows now", x.read(0, 0, 1), 36);
            row(x, 0, 2);
            Check.due("what it doesn't know now", x.read(0, 0, 1), 0);
        }
        x.sheet(0, 16, 2);
        row(x, 0, 1, 257);
        Check.due("a person, an actor, a general or a spy says 8", x.read(0, 0, 1), 24);
        row(x, 0, 1, 1);
        Check.due("a wife or a lover doesn't", x.read(0, 0, 1), 12);
        x.set(0, 1, 1023);
        x.sheet(0, 64, 1);
        row(x, 0, 1023);
        Check.due("all ten", x.read(0, 0, 1), 36);
        row(x, 0, 1023 | 1L << 32);
        Check.due("a number that is a set in its lowest bits alone", x.read(0, 0, 1), 0);
        x.sheet(0, 8, 1);
        x.book(0, 0);
        Check.due("8 bits tell -1, which is no set", x.read(0, 0, 1), 0);
        Check.due("KINDS", x.of(0, 0) * 10 + x.of(1, 0), 1);
    }

    private static void readFindings() {
        WhisperSeats x = talkers();
        x.sheet(0, 16, 2);
        Doc.says("BEYOND: no such sheet.");
        for (int s : NO_SHEETS) {
            Check.due("read(" + s + ", 0, 1)", x.read(s, 0, 1), Check.BEYOND);
        }
        Doc.says("MISSING.");
        Check.due("read(1, 0, 1)", x.read(1, 0, 1), Check.MISSING);
        Check.due("read(1, 0, 0)", x.read(1, 0, 0), Check.MISSING);
        Check.due("read(1, 2, -1)", x.read(1, 2, -1), Check.MISSING);
        Doc.says("BEYOND: person, other (also one and the same).");
        x.sheet(2, 8, 0);
        for (int s = 0; s < 4; s += 2) {
            Check.due("read(" + s + ", 0, 0)", x.read(s, 0, 0), Check.BEYOND);
            Check.due("read(" + s + ", 1, 1)", x.read(s, 1, 1), Check.BEYOND);
            for (int nobody : NOBODIES) {
                Check.due("read(" + s + ", " + nobody + ", 0)", x.read(s, nobody, 0), Check.BEYOND);
                Check.due("read(" + s + ", 0, " + nobody + ")", x.read(s, 0, nobody), Check.BEYOND);
            }
        }
    }
}
