/** The document's terms, a test for each sentence. */
public final class SentencesOfTermsTest {
    public static void main(String[] args) {
        Doc.part("Terms");
        findings();
        orderOfFindings();
        quotients();
        sets();
        hour();
        monday();
        moon();
        secrets();
        people();
        says();
        trusts();
        stays();
        hourGoes();
        text();
        onAndOut();
        sheets();
        Doc.end();
    }

    private static void findings() {
        Doc.says("FINDINGS are answers below -1000000000: -1000000001 BEYOND, -1000000002 FULL, -1000000003 KIND, "
            + "-1000000004 NONE, -1000000005 STATE, -1000000006 MISSING, -1000000007 SIZE (in longs, too).");
        WhisperSeats x = new WhisperSeats();
        Check.people(x, 0, 0, 0, 0, 0, 0, 0, 0);
        x.sit(0, 0);
        Check.due("BEYOND", x.person(6), -1000000001);
        Check.due("FULL", x.person(0), -1000000002);
        Check.due("KIND", x.as(0, 1), -1000000003);
        Check.due("NONE", x.undo(), -1000000004);
        Check.due("STATE", x.sit(1, 0), -1000000005);
        Check.due("MISSING", x.lays(0), -1000000006);
        Check.due("SIZE", x.sheet(0, 8, -1), -1000000007);
        Check.due("BEYOND, a long", x.write(4, 0, 0), -1000000001L);
        Check.due("MISSING, a long", x.write(0, 0, 0), -1000000006L);
        x.sheet(0, 64, 1);
        x.write(0, 0, -1000000002L);
        Check.due("a number that looks like one", x.write(0, 0, 0), -1000000002L);
        int[] counts = {2, 1, 1, 1, 1, 2, 1};
        for (int which = 0; which < 7; which++) {
            Check.due("status(" + which + ")", x.status(which), counts[which]);
        }
    }

    private static void orderOfFindings() {
        Doc.says("Each act tells its findings in the order in which they are asked; "
            + "one that answers a finding changes nothing but status().");
        firstAskedFirstTold();
        refusedSecretsAndPeople();
        refusedHoursAndBest();
        refusedTextSheetsImages();
    }

    /** Where two findings hold at once, the one that the promise names first is told. */
    private static void firstAskedFirstTold() {
        Whole.refuses("person, no kind and full", x -> Check.people(x, 0, 0, 0), x -> x.person(6), Check.BEYOND);
        Whole.refuses("as, no such one", x -> x.as(5, 1), Check.BEYOND);
        Whole.refuses("sit, no such one on a held seat", SentencesOfTermsTest::holdSeat, x -> x.sit(5, 0), Check.BEYOND);
        Whole.refuses("forget, too many hours and none known", x -> x.set(0, 1, 0), x -> x.forget(0, 61), Check.BEYOND);
        Whole.refuses("confide, too many hours and all known", x -> x.set(0, 1, 1023), x -> x.confide(0, 61), Check.BEYOND);
        Whole.refuses("feed, five and no room", SentencesOfTermsTest::fillTape, x -> x.feed(0, 5), Check.BEYOND);
        Whole.refuses("sheet, no such sheet and a size below 0", x -> x.sheet(4, 8, -1), Check.BEYOND);
        Whole.refuses("sheet, other bits and a size below 0", x -> x.sheet(0, 9, -1), Check.BEYOND);
        Whole.refuses("write, missing and no such number", x -> x.write(3, 40, 1), Check.MISSING);
        Whole.refuses("copy, no such sheet and a missing one", x -> x.copy(4, 0, 3, 0, 1), Check.BEYOND);
        Whole.refuses("copy, a missing one and no such sheet", x -> x.copy(3, 0, 4, 0, 1), Check.BEYOND);
        Whole.refuses("copy, a missing one and no such number", x -> x.copy(3, 0, 0, 0, 9), Check.MISSING);
        Whole.refuses("copy, other bits and no such number", x -> x.copy(0, 0, 1, 0, 9), Check.KIND);
        Whole.refuses("book, missing and nobody", x -> x.book(3, 5), Check.MISSING);
        Whole.refuses("book, no such sheet and nobody", x -> x.book(4, 5), Check.BEYOND);
        Whole.refuses("read, missing and nobody", x -> x.read(3, 5, 5), Check.MISSING);
        WhisperSeats nobody = new WhisperSeats();
        Check.due("wisest, too many hours and nobody", nobody.wisest(201), Check.BEYOND);
    }

    private static void fillTape(WhisperSeats x) {
        x.wipe();
        for (int i = 0; i < 30; i++) {
            x.feed(0x20202020, 4);
        }
    }

    private static void refusedSecretsAndPeople() {
        Whole.refuses("sham(1024)", x -> x.sham(1024), Check.BEYOND);
        Whole.refuses("who(10, 0)", x -> x.who(10, 0), Check.BEYOND);
        Whole.refuses("person(6)", x -> x.person(6), Check.BEYOND);
        Whole.refuses("person(0), full", x -> Check.people(x, 0, 0, 0), x -> x.person(0), Check.FULL);
        Whole.refuses("of(0, 8)", x -> x.of(0, 8), Check.BEYOND);
        Whole.refuses("set(0, 1, 1024)", x -> x.set(0, 1, 1024), Check.BEYOND);
        Whole.refuses("set(0, 2, 2), unknown", x -> x.set(0, 1, 1), x -> x.set(0, 2, 2), Check.BEYOND);
        Whole.refuses("set(0, 5, 10000)", x -> x.set(0, 5, 10000), Check.BEYOND);
        Whole.refuses("turn(0, 6)", x -> x.turn(0, 6), Check.BEYOND);
        Whole.refuses("as(0, 6)", x -> x.as(0, 6), Check.BEYOND);
        Whole.refuses("as(0, 1)", x -> x.as(0, 1), Check.KIND);
        Whole.refuses("sit(0, 2)", x -> x.sit(0, 2), Check.BEYOND);
        Whole.refuses("sit(1, 0), held", SentencesOfTermsTest::holdSeat, x -> x.sit(1, 0), Check.STATE);
        Whole.refuses("sit(3, 0), held, from seat 1", x -> x.sit(3, 0), Check.STATE);
        Whole.refuses("sit(4, 1), held, from seat 0", x -> x.sit(4, 1), Check.STATE);
        Whole.refuses("trusts(0, 10)", x -> x.trusts(0, 10), Check.BEYOND);
    }

    private static void holdSeat(WhisperSeats x) {
        x.sit(x.now(3), -1);
        x.sit(0, -1);
        x.sit(0, 0);
    }

    private static void refusedHoursAndBest() {
        Whole.refuses("hours(101)", x -> x.hours(101), Check.BEYOND);
        Whole.refuses("now(8)", x -> x.now(8), Check.BEYOND);
        Whole.refuses("on(0, 201, 0)", x -> x.on(0, 201, 0), Check.BEYOND);
        Whole.refuses("knows(0, 10)", x -> x.knows(0, 10), Check.BEYOND);
        Whole.refuses("knows of a silent park", SentencesOfTermsTest::silence, x -> x.knows(0, 9), Check.NONE);
        Whole.refuses("out(10)", x -> x.out(10), Check.BEYOND);
        Whole.refuses("out in a silent park", SentencesOfTermsTest::silence, x -> x.out(9), Check.NONE);
        Whole.refuses("meet(0, 0)", x -> x.meet(0, 0), Check.BEYOND);
        Whole.refuses("meet(0, 1) of two that don't", x -> x.meet(0, 1), Check.NONE);
        Whole.refuses("kind(0, 101)", x -> x.kind(0, 101), Check.BEYOND);
        Whole.refuses("forget(0, 61)", x -> x.forget(0, 61), Check.BEYOND);
        Whole.refuses("forget(0, 60), none known", x -> x.set(0, 1, 0), x -> x.forget(0, 60), Check.NONE);
        Whole.refuses("confide(0, 61)", x -> x.confide(0, 61), Check.BEYOND);
        Whole.refuses("confide(0, 60), all known", x -> x.set(0, 1, 1023), x -> x.confide(0, 60), Check.NONE);
        Whole.refuses("enough(0, 100)", x -> x.enough(0, 100), Check.BEYOND);
        Whole.refuses("enough(0, 1) in a silent park", SentencesOfTermsTest::silence, x -> x.enough(0, 1), Check.NONE);
        Whole.refuses("doubt(61)", x -> x.doubt(61), Check.BEYOND);
        Whole.refuses("wisest(201)", x -> x.wisest(201), Check.BEYOND);
    }

    private static void silence(WhisperSeats x) {
        for (int i = 0; i < 5; i++) {
            x.turn(i, Check.WIFE);
            x.set(i, 1, 1);
        }
    }

    private static void refusedTextSheetsImages() {
        Whole.refuses("feed(0, 5)", x -> x.feed(0, 5), Check.BEYOND);
        Whole.refuses("feed(0, 1), full", SentencesOfTermsTest::fillTape, x -> x.feed(0, 1), Check.FULL);
        Whole.refuses("sheet(0, 32, 1)", x -> x.sheet(0, 32, 1), Check.BEYOND);
        Whole.refuses("sheet(0, 16, -1)", x -> x.sheet(0, 16, -1), Check.SIZE);
        Whole.refuses("sheet(0, 0, 41)", x -> x.sheet(0, 0, 41), Check.BEYOND);
        Whole.refuses("write(4, 0, 1)", x -> x.write(4, 0, 1), Check.BEYOND);
        Whole.refuses("write(0, 3, 1)", x -> x.write(0, 3, 1), Check.BEYOND);
        Whole.refuses("copy(0, 1, 0, 0, 3)", x -> x.copy(0, 1, 0, 0, 3), Check.BEYOND);
        Whole.refuses("lays(3)", x -> x.lays(3), Check.MISSING);
        Whole.refuses("lays(4)", x -> x.lays(4), Check.BEYOND);
        Whole.refuses("book(0, 5)", x -> x.book(0, 5), Check.BEYOND);
        Whole.refuses("read(0, 1, 1)", x -> x.read(0, 1, 1), Check.BEYOND);
        Whole.refuses("undo() of nothing", x -> x.tear(), x -> x.undo(), Check.NONE);
        Whole.refuses("count(4)", x -> x.count(4), Check.BEYOND);
        Whole.refuses("status(7)", x -> x.status(7), Check.BEYOND);
    }

    private static void quotients() {
        Doc.says("Quotients are cut.");
        WhisperSeats x = new WhisperSeats();
        x.person(Check.LOVER);
        int[] known = {0, 7, 15, 127, 255, 1023};
        int[] stays = {4, 4, 5, 5, 6, 6};
        for (int i = 0; i < known.length; i++) {
            x.set(0, 1, known[i]);
            Check.due("a lover's stay, knowing " + known[i], x.of(0, 7), stays[i]);
        }
        x.hours(23);
        Check.due("23 by 24 is day 0", x.now(2), 1);
    }

    private static void sets() {
        Doc.says("Sets are told by bits.");
        WhisperSeats x = new WhisperSeats();
        Check.people(x, 0, 0, 0, 0, 0, 0, 0, 0);
        for (int secret = 0; secret < 10; secret++) {
            x.sham(1 << secret);
            x.set(7, 1, 1 << secret);
            Check.due("only " + secret + " is sham", x.now(6), 1 << secret);
            Check.due("who knows only " + secret + " says it", x.of(7, 6), secret);
            Check.due("who knows " + secret, x.who(secret, 0), 128);
        }
    }

    private static void hour() {
        Doc.says("HOUR: 0 at first (99999 at most); of the day: its rest by 24; DAY: HOUR by 24.");
        WhisperSeats x = new WhisperSeats();
        Check.due("HOUR at first", x.now(0), 0);
        Check.due("of the day at first", x.now(1), 0);
        x.hours(23);
        Check.due("the last of the day", x.now(1), 23);
        x.hours(1);
        Check.due("HOUR 24", x.now(0), 24);
        Check.due("of the next day", x.now(1), 0);
        x.hours(24);
        Check.due("of the day behind that", x.now(1), 0);
        // No run of 512 calls comes so far; the limit is kept behind them all the same.
        for (int i = 0; i < 999; i++) {
            x.hours(100);
        }
        Check.due("hours(51)", x.hours(51), 0);
        Check.due("the greatest HOUR", x.now(0), 99999);
        Check.due("no further", x.hours(1), Check.STATE);
        Check.due("still the greatest HOUR", x.now(0), 99999);
    }

    private static void monday() {
        Doc.says("MONDAY: a DAY whose rest by 7 is 0.");
        int[] hours = {0, 23, 24, 167, 168, 191, 192, 335, 336, 359, 360};
        int[] due = {1, 1, 0, 0, 1, 1, 0, 0, 1, 1, 0};
        for (int i = 0; i < hours.length; i++) {
            Check.due("at HOUR " + hours[i], at(hours[i]).now(2), due[i]);
        }
    }

    private static WhisperSeats at(int hour) {
        WhisperSeats x = new WhisperSeats();
        for (int left = hour; left > 0; left -= 100) {
            x.hours(Math.min(left, 100));
        }
        return x;
    }

    private static void moon() {
        Doc.says("MOON: hours of the day from 22 on.");
        int[] hours = {0, 21, 22, 23, 24, 45, 46, 47, 48};
        for (int hour : hours) {
            WhisperSeats x = at(hour);
            x.person(Check.PERSON);
            x.set(0, 1, Check.set(4));
            Check.due("said at HOUR " + hour, x.of(0, 6), hour % 24 == 22 || hour % 24 == 23 ? -1 : 4);
        }
    }

    private static void secrets() {
        Doc.says("SECRETS 0 to 9, each SHAM (1) or not (0; at first).");
        WhisperSeats x = new WhisperSeats();
        x.person(Check.GENERAL);
        for (int secret = 0; secret < 10; secret++) {
            Check.due("true at first, trusts(0, " + secret + ")", x.trusts(0, secret), 1);
        }
        x.sham(Check.set(0, 9));
        for (int secret = 0; secret < 10; secret++) {
            Check.due("sham 0 and 9, trusts(0, " + secret + ")", x.trusts(0, secret), secret % 9 == 0 ? 0 : 1);
        }
        Check.due("secret -1", x.trusts(0, -1), Check.BEYOND);
        Check.due("secret 10", x.trusts(0, 10), Check.BEYOND);
        Check.due("a set with secret 10", x.sham(1 << 10), Check.BEYOND);
    }

    private static void people() {
        Doc.says("PEOPLE 0, 1, .. (at most 8) are of KINDS: 0 PERSON, 1 ACTOR under PERSON, 2 GENERAL under PERSON, "
            + "3 WIFE under PERSON, 4 LOVER under ACTOR, 5 SPY under WIFE; each KNOWS a set of SECRETS (none at first), "
            + "BELIEVES a set of them (none at first), is ON a SEAT (0, 1) or nowhere (-1; at first; at most one ON each), "
            + "HEARD (how many it heard; 0 at first, held to 9999).");
        WhisperSeats x = new WhisperSeats();
        for (int i = 0; i < 8; i++) {
            Check.due("number " + i, x.person(i % 6), i);
            int[] atFirst = {i % 6, 0, 0, -1, 0, 0};
            for (int what = 0; what < atFirst.length; what++) {
                Check.due("at first: of(" + i + ", " + what + ")", x.of(i, what), atFirst[what]);
            }
        }
        Check.due("a ninth", x.person(0), Check.FULL);
        int[][] above = {{0}, {1, 0}, {2, 0}, {3, 0}, {4, 1, 0}, {5, 3, 0}};
        for (int i = 0; i < 6; i++) {
            for (int kind = 0; kind < 6; kind++) {
                int wanted = kind;
                boolean is = java.util.Arrays.stream(above[i]).anyMatch(one -> one == wanted);
                Check.due("as(" + i + ", " + kind + ")", x.as(i, kind), is ? 0 : Check.KIND);
            }
        }
        x.sit(4, 0);
        Check.due("a second one on seat 0", x.sit(5, 0), Check.STATE);
        Check.due("one on seat 1", x.sit(5, 1), -1);
        Check.due("a second one on seat 1", x.sit(4, 1), Check.STATE);
        heardIsHeld();
    }

    private static void heardIsHeld() {
        WhisperSeats x = Check.pair(Check.ACTOR, Check.set(1), Check.ACTOR, Check.set(2));
        x.set(0, 5, 9998);
        x.hours(1);
        Check.due("one more", x.of(0, 5), 9999);
        x.hours(1);
        Check.due("held", x.of(0, 5), 9999);
        Check.due("all together", x.count(2), 9999 + 2);
    }

    /** What one of a kind says at an hour of a Tuesday. */
    private static int said(int kind, int hour, int known, int believed, int shams) {
        WhisperSeats x = at(24 + hour);
        x.person(kind);
        x.set(0, 1, known);
        x.set(0, 2, believed);
        x.sham(shams);
        return x.of(0, 6);
    }

    private static void says() {
        Doc.says("SAYS (which SECRET, at an hour of the day h; -1: none): PERSON: the least that it BELIEVES "
            + "(if it BELIEVES none, the least that it KNOWS).");
        saysAsPerson(Check.PERSON);
        Check.due("all sham", said(Check.PERSON, 0, 1023, 0, 1023), 0);
        Doc.says("ACTOR: the greatest that it KNOWS.");
        saysAsActor(Check.ACTOR, 0);
        Doc.says("GENERAL: the least SHAM one, KNOWN or not (as PERSON, if there is none).");
        Check.due("the only sham one, not known", said(Check.GENERAL, 0, 15, 15, Check.set(9)), 9);
        Check.due("the only sham one, nothing known", said(Check.GENERAL, 0, 0, 0, Check.set(9)), 9);
        Check.due("the least sham one, another known", said(Check.GENERAL, 0, Check.set(8), Check.set(8), Check.set(3, 8)), 3);
        Check.due("all sham", said(Check.GENERAL, 0, Check.set(8), 0, 1023), 0);
        saysAsPerson(Check.GENERAL);
        Doc.says("WIFE: none.");
        for (int hour = 0; hour < 24; hour++) {
            Check.due("at hour " + hour, said(Check.WIFE, hour, 1023, 1023, 1023), -1);
        }
        Doc.says("LOVER: as ACTOR, but none ahead of hour 12.");
        Check.due("at hour 0", said(Check.LOVER, 0, 1023, 0, 0), -1);
        Check.due("at hour 11", said(Check.LOVER, 11, 1023, 0, 0), -1);
        saysAsActor(Check.LOVER, 12);
        saysAsActor(Check.LOVER, 21);
        Doc.says("SPY: as PERSON at hours whose rest by 6 is 0, else as WIFE.");
        saysAsPerson(Check.SPY);
        for (int hour = 0; hour < 24; hour++) {
            boolean speaks = hour == 0 || hour == 6 || hour == 12 || hour == 18;
            Check.due("at hour " + hour, said(Check.SPY, hour, Check.set(2, 5), Check.set(5), 1023), speaks ? 5 : -1);
        }
        Doc.says("(In the MOON nobody SAYS any.)");
        for (int kind = 0; kind < 6; kind++) {
            Check.due("kind " + kind + " at hour 22", said(kind, 22, 1023, 1023, 1023), -1);
            Check.due("kind " + kind + " at hour 23", said(kind, 23, 1023, 1023, 1023), -1);
        }
    }

    private static void saysAsPerson(int kind) {
        Check.due("knows none", said(kind, 0, 0, 0, 0), -1);
        Check.due("knows 0 alone", said(kind, 0, 1, 0, 0), 0);
        Check.due("knows 9 alone", said(kind, 0, 512, 0, 0), 9);
        Check.due("knows all, believes none", said(kind, 0, 1023, 0, 0), 0);
        Check.due("knows all, believes 9 alone", said(kind, 0, 1023, 512, 0), 9);
        Check.due("knows all, believes 3 and 4", said(kind, 0, 1023, Check.set(3, 4), 0), 3);
    }

    private static void saysAsActor(int kind, int hour) {
        Check.due("knows none", said(kind, hour, 0, 0, 1023), -1);
        Check.due("knows 0 alone", said(kind, hour, 1, 0, 0), 0);
        Check.due("knows all", said(kind, hour, 1023, 0, 0), 9);
        Check.due("knows all, believes 0 alone", said(kind, hour, 1023, 1, 1), 9);
        Check.due("knows 3 and 4", said(kind, hour, Check.set(3, 4), 0, 0), 4);
    }

    /** Whether one of a kind that knows the n least secrets trusts secret 9. */
    private static int trusted(int kind, int n, boolean sham) {
        WhisperSeats x = new WhisperSeats();
        x.person(kind);
        x.set(0, 1, (1 << n) - 1);
        x.sham(sham ? Check.set(9) : 1023 & ~Check.set(9));
        return x.trusts(0, 9);
    }

    private static void trusts() {
        Doc.says("TRUSTS (whether it BELIEVES what it hears, SHAM or not, n SECRETS being KNOWN to it): "
            + "PERSON: if that is not SHAM, or n is below 3.");
        trustsShamOnes(Check.PERSON, "11100000000");
        Doc.says("ACTOR: always.");
        trustsShamOnes(Check.ACTOR, "11111111111");
        Doc.says("GENERAL: if it is not SHAM.");
        trustsShamOnes(Check.GENERAL, "00000000000");
        Doc.says("WIFE: as PERSON, or if n is 5 or more.");
        trustsShamOnes(Check.WIFE, "11100111111");
        Doc.says("LOVER: as ACTOR.");
        trustsShamOnes(Check.LOVER, "11111111111");
        Doc.says("SPY: as WIFE, but no SHAM ones ever.");
        trustsShamOnes(Check.SPY, "00000000000");
    }

    private static void trustsShamOnes(int kind, String byKnown) {
        for (int n = 0; n <= 10; n++) {
            Check.due("a sham one, knowing " + n, trusted(kind, n, true), byKnown.charAt(n) - '0');
            Check.due("a true one, knowing " + n, trusted(kind, n, false), 1);
        }
    }

    /** One alone sits so many hours, and no more. */
    private static void staysFor(int kind, int known, int hours) {
        WhisperSeats x = Check.tuesday(kind);
        x.set(0, 1, known);
        x.sit(0, 0);
        Check.due("STAYS, knowing " + known, x.of(0, 7), hours);
        x.hours(hours - 1);
        Check.due("still there, knowing " + known, x.of(0, 3), 0);
        Check.due("has sat, knowing " + known, x.of(0, 4), hours - 1);
        x.hours(1);
        Check.due("gone, knowing " + known, x.of(0, 3), -1);
        Check.due("hasn't sat, knowing " + known, x.of(0, 4), 0);
    }

    private static void stays() {
        Doc.says("STAYS (how many hours ON a SEAT, before it goes): PERSON: 3.");
        staysFor(Check.PERSON, 1023, 3);
        Doc.says("ACTOR: as PERSON, and 1.");
        staysFor(Check.ACTOR, 1023, 4);
        Doc.says("GENERAL: 9.");
        staysFor(Check.GENERAL, 1023, 9);
        Doc.says("WIFE: as PERSON, twice that.");
        staysFor(Check.WIFE, 1023, 6);
        Doc.says("LOVER: as ACTOR, and 1 more for each 4 SECRETS that it KNOWS.");
        int[] hours = {4, 4, 4, 4, 5, 5, 5, 5, 6, 6, 6};
        for (int n = 0; n <= 10; n++) {
            staysFor(Check.LOVER, (1 << n) - 1, hours[n]);
        }
        Doc.says("SPY: as WIFE.");
        staysFor(Check.SPY, 1023, 6);
        Doc.says("(Others as the KIND above.)");
        int[] knowingNone = {3, 4, 9, 6, 4, 6};
        for (int kind = 0; kind < 6; kind++) {
            staysFor(kind, 0, knowingNone[kind]);
        }
    }

    private static void hourGoes() {
        Doc.says("An HOUR goes: what each ON a SEAT SAYS is found out first.");
        WhisperSeats x = Check.pair(Check.PERSON, Check.set(5), Check.PERSON, 0);
        Check.due("one that is told something this hour said nothing yet", x.hours(1), 1);
        Check.due("heard by seat 0", x.of(0, 5), 0);
        x = Check.pair(Check.PERSON, 0, Check.PERSON, Check.set(5));
        Check.due("the other way", x.hours(1), 1);
        Check.due("heard by seat 1", x.of(1, 5), 0);
        x = Check.pair(Check.PERSON, Check.set(7), Check.PERSON, Check.set(3));
        x.hours(1);
        Check.due("seat 0 says 7, and not the 3 that it hears", x.of(1, 1), Check.set(3, 7));
        Doc.says("Then, if somebody is ON each SEAT: what one SAYS comes to the other one (but on MONDAYS each hears what "
            + "itself SAYS instead: it BELIEVES it, if it KNOWS it, and that is all): it KNOWS it, HEARD is 1 more, and it "
            + "BELIEVES it, if it TRUSTS (by what it KNEW ahead of that), else it doesn't BELIEVE it any more.");
        alone();
        heardAndTrusted();
        heardAndDoubted();
        heardByAllKinds();
        mondays();
        mondaysOfAllKinds();
        mondayEdges();
        Doc.says("Then each ON a SEAT has sat 1 hour more; "
            + "one that has sat as long as it STAYS, or longer, goes (ON none).");
        sits();
        Doc.says("Then onto each empty SEAT, 0 first, comes the next one in turn that is nowhere: PEOPLE by numbers, from "
            + "the one behind the latest that came so, round (WHO CAME LAST; -1 at first: from 0); "
            + "not one that went in this HOUR.");
        comesRound();
        comesPastOthers();
        comesAgain();
        Doc.says("HOUR is 1 more.");
        WhisperSeats y = new WhisperSeats();
        y.hours(1);
        Check.due("HOUR", y.now(0), 1);
    }

    private static void alone() {
        for (int seat = 0; seat < 2; seat++) {
            for (int day = 0; day < 2; day++) {
                WhisperSeats x = at(24 * day);
                x.person(Check.PERSON);
                x.set(0, 1, Check.set(2));
                x.sit(0, seat);
                Check.due("alone on seat " + seat + ", day " + day + ": heard", x.hours(1), 0);
                Check.due("alone on seat " + seat + ", day " + day + ": believed", x.of(0, 2), 0);
            }
        }
    }

    private static void heardAndTrusted() {
        WhisperSeats x = Check.pair(Check.ACTOR, Check.set(4), Check.PERSON, Check.set(1, 4));
        x.set(1, 2, Check.set(4));
        Check.due("both hear", x.hours(1), 2);
        Check.due("what is known and believed already stays so", x.of(1, 1) + 1024 * x.of(1, 2), 18 + 1024 * 16);
        Check.due("and is counted as heard", x.of(1, 5), 1);
        x = Check.pair(Check.WIFE, Check.set(4), Check.PERSON, Check.set(1));
        Check.due("nothing said, nothing heard", x.hours(1), 1);
        Check.due("by the person", x.of(1, 5), 0);
        Check.due("known to the wife", x.of(0, 1), Check.set(1, 4));
        Check.due("believed by the wife", x.of(0, 2), Check.set(1));
    }

    private static void heardAndDoubted() {
        // The general says 9, which is sham; a person trusts that while it knows fewer than three.
        WhisperSeats x = Check.pair(Check.PERSON, Check.set(1, 2), Check.GENERAL, 0);
        x.sham(Check.set(9));
        x.set(0, 2, Check.set(1));
        x.hours(1);
        Check.due("two known ahead of it: believed", x.of(0, 2), Check.set(1, 9));
        x.hours(1);
        Check.due("three known ahead of it: not any more", x.of(0, 2), Check.set(1));
        Check.due("known all the same", x.of(0, 1), Check.set(1, 2, 9));
        Check.due("heard all the same", x.of(0, 5), 2);
        x = Check.pair(Check.WIFE, Check.set(1, 2, 3, 4), Check.GENERAL, 0);
        x.sham(Check.set(9));
        x.hours(1);
        Check.due("a wife, four known ahead of it", x.of(0, 2), 0);
        x.hours(1);
        Check.due("a wife, five known ahead of it", x.of(0, 2), Check.set(9));
        x = Check.pair(Check.GENERAL, 0, Check.PERSON, Check.set(1, 2, 3));
        x.sham(Check.set(9));
        x.hours(1);
        Check.due("a person on seat 1, three known ahead of it", x.of(1, 2), 0);
        x = Check.pair(Check.GENERAL, Check.set(1, 2, 3), Check.ACTOR, Check.set(1, 2, 3));
        x.sham(Check.set(9));
        x.hours(1);
        Check.due("an actor on seat 1 trusts all", x.of(1, 2), Check.set(9));
    }

    /** Each kind on each seat, told of 5 by an actor. */
    private static void heardByAllKinds() {
        for (int kind = 0; kind < 6; kind++) {
            for (int seat = 0; seat < 2; seat++) {
                WhisperSeats x = Check.pair(Check.ACTOR, Check.set(5), Check.ACTOR, Check.set(5));
                x.turn(seat, kind);
                x.set(seat, 1, 0);
                x.hours(1);
                String who = "kind " + kind + " on seat " + seat;
                Check.due(who + " knows it", x.of(seat, 1), Check.set(5));
                Check.due(who + " believes it", x.of(seat, 2), Check.set(5));
                Check.due(who + " heard it", x.of(seat, 5), 1);
                x.hours(1);
                Check.due(who + " heard it again", x.of(seat, 5), 2);
            }
        }
    }

    /** At hour 12 all but a wife say what they know; each hears itself alone. */
    private static void mondaysOfAllKinds() {
        for (int kind = 0; kind < 6; kind++) {
            WhisperSeats x = at(12);
            Check.people(x, kind, kind);
            x.set(0, 1, Check.set(3));
            x.set(1, 1, Check.set(4));
            x.sit(0, 0);
            x.sit(1, 1);
            Check.due("kind " + kind + ": HEARD", x.hours(1), 0);
            for (int seat = 0; seat < 2; seat++) {
                int own = Check.set(3 + seat);
                Check.due("kind " + kind + " on seat " + seat + " knows", x.of(seat, 1), own);
                Check.due("kind " + kind + " on seat " + seat + " believes", x.of(seat, 2), kind == Check.WIFE ? 0 : own);
            }
        }
    }

    private static void mondays() {
        WhisperSeats x = new WhisperSeats();
        Check.people(x, Check.PERSON, Check.GENERAL);
        x.sham(Check.set(6));
        x.set(0, 1, Check.set(1, 2));
        x.sit(0, 0);
        x.sit(1, 1);
        Check.due("nobody hears the other", x.hours(1), 0);
        Check.due("the person believes itself", x.of(0, 2), Check.set(1));
        Check.due("and knows no more", x.of(0, 1), Check.set(1, 2));
        Check.due("the general doesn't know what it says", x.of(1, 1) + x.of(1, 2), 0);
        x.set(0, 2, Check.set(2));
        x.set(1, 1, Check.set(5, 6));
        x.set(1, 2, Check.set(5));
        x.hours(1);
        Check.due("what is believed already stays believed", x.of(0, 2), Check.set(2));
        Check.due("the general trusts itself, even sham", x.of(1, 2), Check.set(5, 6));
        Check.due("HEARD of all", x.count(2), 0);
        for (int silent = 0; silent < 2; silent++) {
            WhisperSeats y = new WhisperSeats();
            Check.people(y, Check.ACTOR, Check.ACTOR);
            y.turn(silent, Check.WIFE);
            y.set(0, 1, Check.set(3));
            y.set(1, 1, Check.set(3));
            y.sit(0, 0);
            y.sit(1, 1);
            y.hours(1);
            Check.due("it believes itself, though the other one is silent", y.of(1 - silent, 2), Check.set(3));
            Check.due("the silent one hears nothing to believe", y.of(silent, 2), 0);
        }
    }

    /** Sunday's last hour ahead of the moon is the sixth day's 21; the next Monday's first is 168. */
    private static void mondayEdges() {
        int[] hours = {21, 22, 24, 165, 166, 168, 189, 190, 192};
        int[] heard = {0, 0, 2, 2, 0, 0, 0, 0, 2};
        int[] believed = {2, 0, 2, 2, 0, 2, 2, 0, 2};
        for (int i = 0; i < hours.length; i++) {
            WhisperSeats x = at(hours[i]);
            Check.people(x, Check.PERSON, Check.PERSON);
            x.set(0, 1, Check.set(1));
            x.set(1, 1, Check.set(2));
            x.sit(0, 0);
            x.sit(1, 1);
            Check.due("heard at HOUR " + hours[i], x.hours(1), heard[i]);
            Check.due("believed at HOUR " + hours[i], x.count(3), believed[i]);
        }
    }

    private static void sits() {
        WhisperSeats x = Check.pair(Check.WIFE, 0, Check.ACTOR, 0);
        x.hours(3);
        Check.due("both have sat", x.of(0, 4) * 10 + x.of(1, 4), 33);
        x.hours(1);
        Check.due("the actor goes", x.now(4), -1);
        Check.due("the wife doesn't", x.now(3), 0);
        x = Check.tuesday(Check.GENERAL);
        x.sit(0, 1);
        x.hours(8);
        Check.due("the general still sits", x.of(0, 4), 8);
        x.turn(0, Check.PERSON);
        x.hours(1);
        Check.due("longer than it stays", x.now(4), -1);
        x = Check.tuesday(Check.WIFE);
        x.hours(20);
        x.sit(0, -1);
        x.sit(0, 0);
        x.hours(3);
        Check.due("in the moon, too", x.of(0, 4), 3);
        loverToldInItsLastHour();
        for (int kind = 0; kind < 6; kind++) {
            x = Check.pair(kind, Check.set(1), Check.ACTOR, Check.set(2));
            x.hours(2);
            Check.due("of kind " + kind + ", hearing all the while", x.of(0, 4), 2);
        }
    }

    private static void loverToldInItsLastHour() {
        WhisperSeats x = Check.tuesday(Check.LOVER, Check.ACTOR);
        x.set(0, 1, Check.set(0, 1, 2));
        x.set(1, 1, Check.set(9));
        x.sit(0, 0);
        x.hours(3);
        x.sit(1, 1);
        x.hours(1);
        Check.due("a fourth secret, heard this hour, makes it stay", x.of(0, 4), 4);
        x.hours(1);
        Check.due("one hour more", x.now(3), -1);
    }

    private static void comesRound() {
        // From these hours on a week's turns of three hours end at each hour of each day.
        for (int from = 0; from < 3; from++) {
            WhisperSeats x = at(from);
            Check.people(x, 0, 0, 0, 0, 0, 0, 0, 0);
            Check.due("WHO CAME LAST at first", x.now(7), -1);
            x.hours(1);
            for (int turn = 0; turn < 60; turn++) {
                int first = 2 * turn % 8;
                String when = "from " + from + ", turn " + turn;
                Check.due(when + ": seat 0", x.now(3), first);
                Check.due(when + ": seat 1", x.now(4), first + 1);
                Check.due(when + ": WHO CAME LAST", x.now(7), first + 1);
                x.hours(2);
                Check.due(when + ": still there", x.now(3) * 10 + x.now(4), first * 11 + 1);
                x.hours(1);
            }
        }
    }

    private static void comesPastOthers() {
        WhisperSeats x = Check.tuesday(Check.GENERAL, 0, 0);
        x.sit(0, 1);
        Check.due("sit() is no coming", x.now(7), -1);
        x.hours(1);
        Check.due("past 0, which sits: 1 to seat 0", x.now(3), 1);
        x.hours(3);
        Check.due("1 went, 2 comes", x.now(3), 2);
        x.hours(3);
        Check.due("2 went, past 0, which sits: 1 comes", x.now(3), 1);
        x = Check.tuesday(0, 0, 0);
        x.sit(2, 0);
        x.hours(1);
        Check.due("0 comes to seat 1", x.now(4), 0);
        x.hours(2);
        Check.due("2 went, 1 comes to seat 0", x.now(3), 1);
        Check.due("0 still on seat 1", x.now(4), 0);
    }

    private static void comesAgain() {
        WhisperSeats x = Check.tuesday(0);
        x.hours(1);
        Check.due("the only one comes to seat 0", x.now(3), 0);
        Check.due("and seat 1 stays empty", x.now(4), -1);
        x.hours(3);
        Check.due("it went, and doesn't come in this hour", x.now(3), -1);
        Check.due("WHO CAME LAST stays", x.now(7), 0);
        x.hours(1);
        Check.due("it comes again in the next", x.now(3), 0);
        x = Check.tuesday(0, 0, 0);
        x.sit(0, 0);
        x.sit(1, 1);
        x.hours(3);
        Check.due("both went: 2 comes to seat 0", x.now(3), 2);
        Check.due("nobody else may come to seat 1", x.now(4), -1);
        x.hours(1);
        Check.due("then 0 comes, behind 2, round", x.now(4), 0);
        WhisperSeats nobody = new WhisperSeats();
        Check.due("nobody is there to come", nobody.hours(1), 0);
        Check.due("WHO CAME LAST of nobody", nobody.now(7), -1);
    }

    private static int fault(String text) {
        WhisperSeats x = new WhisperSeats();
        int answer = Check.park(x, text);
        Check.due("'" + text + "' leaves nobody", x.count(0), 0);
        Check.due("'" + text + "' leaves no sham one", x.now(6), 0);
        return -1 - answer;
    }

    private static void faultAt(String text, int place) {
        Check.due("place of the fault in '" + text + "'", fault(text), place);
    }

    private static void items(String text, int items) {
        Check.due("items of '" + text + "'", Check.park(new WhisperSeats(), text), items);
    }

    private static void text() {
        Doc.says("THE TEXT of a PARK, from THE TAPE (bytes, at most 120).");
        WhisperSeats x = new WhisperSeats();
        Check.feed(x, " ".repeat(114) + "sham 9");
        Check.due("120 bytes", x.count(1), 120);
        Check.due("one more", x.feed(' ', 1), Check.FULL);
        Check.due("park() of 120 bytes", x.park(), 1);
        Check.due("its last byte counts", x.now(6), Check.set(9));
        Doc.says("TOKENS, each as long as can be: WORDS (letters a to z), NUMBERS (digits, 999 at most), SIGN ; ; "
            + "blanks may stand between.");
        tokens();
        Doc.says("TEXT: ITEM { ; ITEM }.");
        items("spy", 1);
        items("spy;spy", 2);
        items("sham0;".repeat(19) + "true 0", 20);
        faultAt("", 0);
        faultAt(";", 0);
        faultAt("spy;", 4);
        faultAt("spy; ", 5);
        faultAt(";spy", 0);
        faultAt("spy;;spy", 4);
        faultAt("spy spy", 4);
        faultAt("sham 1 sham 2", 7);
        Doc.says("ITEM: the name of a KIND (person actor general wife lover spy), perhaps knows and 1 to 4 NUMBERS "
            + "(SECRETS), perhaps on and a NUMBER (a SEAT that is empty): one more; sham or true, a NUMBER (a SECRET): so it is.");
        itemsOfPeople();
        itemsOfSecrets();
        Doc.says("FAULT: the place (from 0) of the first byte of the first TOKEN that can't stand there (a NUMBER that may "
            + "not be or is a fifth of SECRETS, another WORD, a byte that begins no TOKEN, the name of a KIND for a 9th: its "
            + "own), or how many bytes there are if it ends too early.");
        faultsOfNumbers();
        faultsOfWordsAndBytes();
        faultsOfNinthAndEnd();
    }

    private static void tokens() {
        String[] names = {"person", "actor", "general", "wife", "lover", "spy"};
        for (String name : names) {
            items(name, 1);
            faultAt(name + "s", 0);
            faultAt(name + name, 0);
            faultAt(name.substring(1), 0);
            faultAt(name.substring(0, name.length() - 1), 0);
        }
        faultAt("spy knowson 1", 4);
        faultAt("spy onn 1", 4);
        faultAt("spyknows 1", 0);
        faultAt("spya", 0);
        faultAt("spyz", 0);
        faultAt("aspy", 0);
        faultAt("shamsham 1", 0);
        faultAt("truetrue 1", 0);
        faultAt("sham 12", 5);
        faultAt("spy knows 12", 10);
        items("spy knows 1 2", 1);
        items("spy knows1 2on0;sham3;true4", 3);
        items("   spy   knows   1   ;   sham   2   ", 2);
        items("sham 000", 1);
        items("sham 0009", 1);
        WhisperSeats x = new WhisperSeats();
        Check.due("noughts ahead of 9 and of 1", Check.park(x, "sham 09;sham 001"), 2);
        Check.due("are left out", x.now(6), Check.set(1, 9));
        faultAt("sham 010", 5);
        faultAt("sham 90", 5);
        faultAt("spy on 10", 7);
        faultAt("sham 999", 5);
        faultAt("sham 1000", 5);
        // Wrapped round in 32 bits these would be 0 and 1.
        faultAt("sham 4294967296", 5);
        faultAt("sham 4294967297", 5);
        char[] strays = {'`', '{', 'A', 'S', 'Z', '/', ':', '-', ',', '<', 0, 9, 10, 11, 12, 13, 31, 33, 127, 128, 160, 255};
        for (char stray : strays) {
            faultAt("sham 1" + stray, 6);
            faultAt("spy" + stray, 3);
            faultAt("spy knows" + stray + "1", 9);
            faultAt(stray + "sham 1", 0);
        }
    }

    private static void itemsOfPeople() {
        WhisperSeats x = new WhisperSeats();
        Check.due("all kinds", Check.park(x, "person;actor;general;wife;lover knows 0 on 1;spy knows 9 8 7 6 on 0"), 6);
        int[][] due = {{0, 0, 0, -1, 0, 0}, {1, 0, 0, -1, 0, 0}, {2, 0, 0, -1, 0, 0}, {3, 0, 0, -1, 0, 0},
            {4, 1, 0, 1, 0, 0}, {5, 960, 0, 0, 0, 0}};
        for (int i = 0; i < 6; i++) {
            for (int what = 0; what < 6; what++) {
                Check.due("of(" + i + ", " + what + ")", x.of(i, what), due[i][what]);
            }
        }
        Check.due("nobody came by an hour", x.now(7), -1);
        Check.due("two more come to those", Check.park(x, "person;person knows 7 7 0 0"), 2);
        Check.due("told twice, known once", x.of(7, 1), Check.set(0, 7));
        Check.due("count(0)", x.count(0), 8);
        faultAt("spy knows", 9);
        faultAt("spy knows on 0", 10);
        faultAt("spy knows;spy", 9);
        faultAt("spy on", 6);
        faultAt("spy on;spy", 6);
        faultAt("spy on 0 knows 1", 9);
        faultAt("spy on 0 on 1", 9);
        faultAt("spy knows 1 knows 2", 12);
        faultAt("spy on 0;wife on 0", 17);
        faultAt("spy on 1;wife on 1", 17);
        items("spy on 0;wife on 1", 2);
        WhisperSeats held = new WhisperSeats();
        held.person(0);
        held.sit(0, 1);
        Check.due("a seat that was held before", Check.park(held, "spy on 1"), -1 - 7);
        Check.due("the seat that wasn't", Check.park(held, "spy on 0"), 1);
    }

    private static void itemsOfSecrets() {
        WhisperSeats x = new WhisperSeats();
        Check.due("sham", Check.park(x, "sham 0;sham 9;sham 9"), 3);
        Check.due("now(6)", x.now(6), Check.set(0, 9));
        Check.due("true", Check.park(x, "true 9;true 3;sham 4;true 4;sham 4"), 5);
        Check.due("now(6)", x.now(6), Check.set(0, 4));
        faultAt("sham", 4);
        faultAt("true", 4);
        faultAt("sham;true 1", 4);
        faultAt("sham spy", 5);
        faultAt("sham 1 2", 7);
        faultAt("true 1 on 0", 7);
    }

    private static void faultsOfNumbers() {
        faultAt("sham 10", 5);
        faultAt("true 10", 5);
        faultAt("spy knows 10", 10);
        faultAt("spy knows 1 2 3 10", 16);
        faultAt("spy knows 1 2 3 4 5", 18);
        faultAt("spy knows 1 1 1 1 1", 18);
        faultAt("spy on 2", 7);
        faultAt("spy on 9", 7);
        faultAt("spy 1", 4);
        faultAt("1", 0);
        faultAt("spy on 0 1", 9);
    }

    private static void faultsOfWordsAndBytes() {
        String[] words = {"persons", "perso", "berson", "persom", "nobody", "knows", "on", "a", "z", "shams", "truth"};
        for (String word : words) {
            faultAt(word, 0);
            faultAt("  " + word, 2);
            faultAt("sham 1; " + word, 8);
        }
        faultAt("spy off 1", 4);
        faultAt("spy know 1", 4);
        faultAt("spy knows one", 10);
        faultAt("Spy", 0);
        faultAt("spY", 0);
        faultAt("spyY", 3);
        faultAt("spy knows -1", 10);
        faultAt("spy knows 1,2", 11);
    }

    private static void faultsOfNinthAndEnd() {
        WhisperSeats x = new WhisperSeats();
        Check.people(x, 0, 0, 0, 0, 0, 0, 0);
        Check.due("a 9th behind an 8th", Check.park(x, "spy knows 1; wife knows 99"), -1 - 13);
        Check.due("still seven", x.count(0), 7);
        Check.due("an 8th", Check.park(x, "spy"), 1);
        Check.due("a 9th", Check.park(x, "spy"), -1);
        Check.due("a 9th behind blanks", Check.park(x, "  spy"), -1 - 2);
        Check.due("no 9th", Check.park(x, "sham 3"), 1);
        faultAt("   ", 3);
        faultAt("sham   ", 7);
        faultAt("spy knows 1 on ", 15);
        faultAt(" ".repeat(120), 120);
        faultAt(" ".repeat(116) + "sham", 120);
    }

    private static void onAndOut() {
        Doc.says("ON: n HOURS go on with all as it is; nothing changes.");
        Whole.onlyAnswers("on(0, 200, 0)", x -> x.on(0, 200, 0));
        Whole.onlyAnswers("on(0, 200, 1)", x -> x.on(0, 200, 1));
        Whole.onlyAnswers("on(0, 200, 2)", x -> x.on(0, 200, 2));
        Whole.onlyAnswers("knows(1, 2)", x -> x.knows(1, 2));
        Whole.onlyAnswers("out(2)", x -> x.out(2));
        Whole.onlyAnswers("meet(1, 2)", x -> x.meet(1, 2));
        Whole.onlyAnswers("kind(1, 100)", x -> x.kind(1, 100));
        Whole.onlyAnswers("forget(1, 60)", x -> x.forget(1, 60));
        Whole.onlyAnswers("confide(1, 60)", x -> x.confide(1, 60));
        Whole.onlyAnswers("enough(0, 1)", x -> x.enough(0, 1));
        Whole.onlyAnswers("doubt(60)", x -> x.doubt(60));
        Whole.onlyAnswers("wisest(200)", x -> x.wisest(200));
        Whole.onlyAnswers("read(2, 0, 1)", x -> x.read(2, 0, 1));
        Whole.onlyAnswers("of(0, 6)", x -> x.of(0, 6));
        Whole.onlyAnswers("trusts(0, 2)", x -> x.trusts(0, 2));
        Whole.onlyAnswers("as(1, 3)", x -> x.as(1, 3));
        Whole.onlyAnswers("who(0, 0)", x -> x.who(0, 0));
        Whole.onlyAnswers("now(5)", x -> x.now(5));
        Whole.onlyAnswers("count(3)", x -> x.count(3));
        Whole.onlyAnswers("status(0)", x -> x.status(0));
        Doc.says("OUT: a SECRET that all KNOW (and there are PEOPLE).");
        WhisperSeats x = new WhisperSeats();
        Check.due("nobody knows all, but nobody is there", x.now(5), 0);
        x.person(0);
        Check.due("one that knows none", x.now(5), 0);
        x.set(0, 1, 1023);
        Check.due("one that knows all", x.now(5), 1023);
        Check.people(x, 0, 0, 0, 0, 0, 0, 0);
        Check.due("seven more that know none", x.now(5), 0);
        for (int i = 1; i < 7; i++) {
            x.set(i, 1, 1023);
        }
        Check.due("all but the last know all", x.now(5), 0);
        x.set(7, 1, Check.set(0, 9));
        Check.due("the last knows two", x.now(5), Check.set(0, 9));
    }

    private static void sheets() {
        Doc.says("SHEETS 0 to 3 are rows of at most 40 numbers of 8, 16 or 64 bits, or MISSING (at first).");
        WhisperSeats x = new WhisperSeats();
        for (int s = 0; s < 4; s++) {
            Check.due("at first, sheet " + s, x.write(s, 0, 0), Check.MISSING);
        }
        Check.due("sheet -1", x.sheet(-1, 8, 1), Check.BEYOND);
        Check.due("sheet 4", x.sheet(4, 8, 1), Check.BEYOND);
        int[] bits = {8, 16, 64};
        for (int b : bits) {
            Check.due("40 numbers of " + b + " bits", x.sheet(3, b, 40), 40);
            Check.due("41 numbers of " + b + " bits", x.sheet(3, b, 41), Check.BEYOND);
            Check.due("the last", x.write(3, 39, 1), 0);
            Check.due("none behind it", x.write(3, 40, 1), Check.BEYOND);
        }
        int[] others = {1, 7, 9, 15, 17, 24, 32, 63, 65, 128, -8, -64};
        for (int b : others) {
            Check.due("numbers of " + b + " bits", x.sheet(3, b, 1), Check.BEYOND);
        }
    }
}
