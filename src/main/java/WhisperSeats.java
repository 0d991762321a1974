/**
 * The whisper bench: two seats that carry to one another, people of kinds who know
 * and believe secrets, and the hours that go. README.md tells how to use it.
 *
 * All rows are made in the constructor and used again; no call makes an object.
 */
public final class WhisperSeats {
    private static final int BEYOND = -1000000001;
    private static final int FULL = -1000000002;
    private static final int KIND = -1000000003;
    private static final int NONE = -1000000004;
    private static final int STATE = -1000000005;
    private static final int MISSING = -1000000006;
    private static final int SIZE = -1000000007;
    private static final int FINDINGS = 7;

    private static final int SECRETS = 10;
    private static final int ALL_SECRETS = 1023;
    private static final int SEATS = 2;
    private static final int NOWHERE = -1;
    private static final int NOBODY = -1;
    private static final int NO_SECRET = -1;

    private static final int KINDS = 6;
    /** The kind above each kind; -1 above PERSON. */
    private static final int[] ABOVE = {-1, 0, 0, 0, 1, 3};

    private static final int MOST_PEOPLE = 8;
    private static final int MOST_HEARD = 9999;
    private static final int LAST_HOUR = 99999;
    private static final int HOURS_A_DAY = 24;
    private static final int DAYS_A_WEEK = 7;
    private static final int MOONRISE = 22;
    private static final int NOON = 12;

    private static final int MOST_HOURS_AT_ONCE = 100;
    private static final int MOST_HOURS_TO_WEIGH = 60;
    private static final int FARTHEST = 200;
    private static final int MOST_TO_HEAR = 99;

    private static final int SHEETS = 4;
    private static final int SHEET_NUMBERS = 40;
    private static final int TAPE_BYTES = 120;
    private static final int SECRETS_IN_ITEM = 4;

    /** What firstHour() may be asked for. */
    private static final int IS_KNOWN = 0;
    private static final int IS_OUT = 1;
    private static final int HAVE_MET = 2;
    private static final int HAS_HEARD = 3;

    private final Park here;
    private final Park ahead;
    private final Park kept;
    private boolean isKept;
    private final Tape tape;
    private final Sheet[] sheets;
    private final int[] findings;
    private final int[] scores;

    public WhisperSeats() {
        Person[] kinds = {new Person(), new Actor(), new General(), new Wife(), new Lover(), new Spy()};
        here = new Park(kinds);
        ahead = new Park(kinds);
        kept = new Park(kinds);
        isKept = false;
        tape = new Tape();
        sheets = new Sheet[SHEETS];
        for (int s = 0; s < SHEETS; s++) {
            sheets[s] = new Sheet();
        }
        findings = new int[FINDINGS];
        scores = new int[SECRETS];
    }

    // ---- secrets

    public int sham(int set) {
        if (!isSetOfSecrets(set)) {
            return finding(BEYOND);
        }
        int was = here.shams;
        here.shams = set;
        return was;
    }

    public int who(int secret, int what) {
        if (!isSecret(secret) || what < 0 || what > 1) {
            return finding(BEYOND);
        }
        int people = 0;
        for (int i = 0; i < here.size; i++) {
            Visitor one = here.visitor(i);
            people |= (((what == 0 ? one.known : one.believed) >> secret) & 1) << i;
        }
        return people;
    }

    // ---- people

    public int person(int kind) {
        if (!isKind(kind)) {
            return finding(BEYOND);
        }
        if (here.isFull()) {
            return finding(FULL);
        }
        return here.welcome(kind);
    }

    public int of(int person, int what) {
        if (!here.has(person)) {
            return finding(BEYOND);
        }
        Visitor one = here.visitor(person);
        switch (what) {
            case 0:
                return one.kind;
            case 1:
                return one.known;
            case 2:
                return one.believed;
            case 3:
                return one.seat;
            case 4:
                return one.sat;
            case 5:
                return one.heard;
            case 6:
                return here.saidBy(person);
            case 7:
                return here.stayOf(person);
            default:
                return finding(BEYOND);
        }
    }

    public int set(int person, int what, int v) {
        if (!here.has(person)) {
            return finding(BEYOND);
        }
        Visitor one = here.visitor(person);
        switch (what) {
            case 1:
                return isSetOfSecrets(v) ? one.learnJust(v) : finding(BEYOND);
            case 2:
                return isSetOfSecrets(v) && (v & ~one.known) == 0 ? one.believeJust(v) : finding(BEYOND);
            case 5:
                return v >= 0 && v <= MOST_HEARD ? one.haveHeard(v) : finding(BEYOND);
            default:
                return finding(BEYOND);
        }
    }

    public int turn(int person, int kind) {
        if (!here.has(person) || !isKind(kind)) {
            return finding(BEYOND);
        }
        Visitor one = here.visitor(person);
        int was = one.kind;
        one.kind = kind;
        return was;
    }

    public int as(int person, int kind) {
        if (!here.has(person) || !isKind(kind)) {
            return finding(BEYOND);
        }
        Visitor one = here.visitor(person);
        return isUnder(one.kind, kind) ? one.heard : finding(KIND);
    }

    public int sit(int person, int seat) {
        if (!here.has(person) || seat < NOWHERE || seat >= SEATS) {
            return finding(BEYOND);
        }
        int holder = seat == NOWHERE ? NOBODY : here.holder(seat);
        if (holder != NOBODY && holder != person) {
            return finding(STATE);
        }
        Visitor one = here.visitor(person);
        int was = one.seat;
        one.settle(seat);
        return was;
    }

    public int trusts(int person, int secret) {
        if (!here.has(person) || !isSecret(secret)) {
            return finding(BEYOND);
        }
        return here.isTrusted(person, secret) ? 1 : 0;
    }

    // ---- hours

    public int hours(int n) {
        if (n < 1 || n > MOST_HOURS_AT_ONCE) {
            return finding(BEYOND);
        }
        if (here.hour > LAST_HOUR - n) {
            return finding(STATE);
        }
        here.letHoursGo(n);
        return here.heardByAll();
    }

    public int now(int what) {
        switch (what) {
            case 0:
                return here.hour;
            case 1:
                return here.hourOfDay();
            case 2:
                return here.isMonday() ? 1 : 0;
            case 3:
                return here.holder(0);
            case 4:
                return here.holder(1);
            case 5:
                return here.knownToAll();
            case 6:
                return here.shams;
            case 7:
                return here.cameLast;
            default:
                return finding(BEYOND);
        }
    }

    public int on(int person, int n, int what) {
        if (!here.has(person) || n < 0 || n > FARTHEST || what < 0 || what > 2) {
            return finding(BEYOND);
        }
        ahead.become(here);
        ahead.letHoursGo(n);
        Visitor one = ahead.visitor(person);
        if (what == 0) {
            return one.known;
        }
        return what == 1 ? one.believed : one.seat;
    }

    public int knows(int person, int secret) {
        if (!here.has(person) || !isSecret(secret)) {
            return finding(BEYOND);
        }
        return firstHour(IS_KNOWN, person, secret);
    }

    public int out(int secret) {
        if (!isSecret(secret)) {
            return finding(BEYOND);
        }
        return firstHour(IS_OUT, NOBODY, secret);
    }

    public int meet(int person, int other) {
        if (!areTwo(person, other)) {
            return finding(BEYOND);
        }
        return firstHour(HAVE_MET, person, other);
    }

    // ---- what is best

    public int kind(int person, int n) {
        if (!here.has(person) || n < 1 || n > MOST_HOURS_AT_ONCE) {
            return finding(BEYOND);
        }
        for (int kind = 0; kind < KINDS; kind++) {
            scores[kind] = learntAs(person, kind, n);
        }
        return leastOfBest(KINDS);
    }

    public int forget(int person, int n) {
        if (!here.has(person) || n < 1 || n > MOST_HOURS_TO_WEIGH) {
            return finding(BEYOND);
        }
        int known = here.visitor(person).known;
        if (known == 0) {
            return finding(NONE);
        }
        for (int secret = 0; secret < SECRETS; secret++) {
            scores[secret] = holds(known, secret) ? heardWithout(person, secret, n) : -1;
        }
        return leastOfBest(SECRETS);
    }

    public int confide(int person, int n) {
        if (!here.has(person) || n < 1 || n > MOST_HOURS_TO_WEIGH) {
            return finding(BEYOND);
        }
        int known = here.visitor(person).known;
        if (known == ALL_SECRETS) {
            return finding(NONE);
        }
        for (int secret = 0; secret < SECRETS; secret++) {
            scores[secret] = holds(known, secret) ? -1 : spreadFrom(person, secret, n);
        }
        return leastOfBest(SECRETS);
    }

    public int enough(int person, int v) {
        if (!here.has(person) || v < 1 || v > MOST_TO_HEAR) {
            return finding(BEYOND);
        }
        return firstHour(HAS_HEARD, person, here.visitor(person).heard + v);
    }

    public int doubt(int n) {
        if (n < 1 || n > MOST_HOURS_TO_WEIGH) {
            return finding(BEYOND);
        }
        for (int secret = 0; secret < SECRETS; secret++) {
            scores[secret] = believedIfTurned(secret, n);
        }
        return leastOfBest(SECRETS);
    }

    public int wisest(int n) {
        if (n < 0 || n > FARTHEST) {
            return finding(BEYOND);
        }
        if (here.size == 0) {
            return finding(NONE);
        }
        ahead.become(here);
        ahead.letHoursGo(n);
        for (int i = 0; i < ahead.size; i++) {
            scores[i] = Integer.bitCount(ahead.visitor(i).known);
        }
        return leastOfBest(ahead.size);
    }

    // ---- the text

    public int feed(int bytes, int n) {
        if (n < 1 || n > 4) {
            return finding(BEYOND);
        }
        if (n > TAPE_BYTES - tape.length) {
            return finding(FULL);
        }
        for (int i = n - 1; i >= 0; i--) {
            tape.append((bytes >> (8 * i)) & 255);
        }
        return tape.length;
    }

    public int wipe() {
        int had = tape.length;
        tape.length = 0;
        return had;
    }

    public int park() {
        // The items come to a park apart, so that a fault behind some of them changes nothing.
        ahead.become(here);
        int items = tape.tellTo(ahead);
        if (items > 0) {
            here.become(ahead);
        }
        tape.length = 0;
        return items;
    }

    // ---- sheets

    public int sheet(int s, int bits, int n) {
        if (!isSheet(s) || (bits != 0 && bits != 8 && bits != 16 && bits != 64)) {
            return finding(BEYOND);
        }
        if (n < 0) {
            return finding(SIZE);
        }
        if (n > SHEET_NUMBERS) {
            return finding(BEYOND);
        }
        int size = bits == 0 ? 0 : n;
        sheets[s].renew(bits, size);
        return size;
    }

    public long write(int s, int i, long v) {
        int fault = faultOfSheet(s);
        if (fault != 0) {
            return finding(fault);
        }
        if (i < 0 || i >= sheets[s].size) {
            return finding(BEYOND);
        }
        return sheets[s].put(i, v);
    }

    public int copy(int s, int from, int t, int to, int n) {
        if (!isSheet(s) || !isSheet(t)) {
            return finding(BEYOND);
        }
        Sheet source = sheets[s];
        Sheet target = sheets[t];
        if (source.isMissing() || target.isMissing()) {
            return finding(MISSING);
        }
        if (source.bits != target.bits) {
            return finding(KIND);
        }
        if (!source.hasSpan(from, n) || !target.hasSpan(to, n)) {
            return finding(BEYOND);
        }
        System.arraycopy(source.numbers, from, target.numbers, to, n);
        return n;
    }

    public int lays(int s) {
        int fault = faultOfSheet(s);
        if (fault != 0) {
            return finding(fault);
        }
        Sheet sheet = sheets[s];
        int came = 0;
        for (int i = 0; i < sheet.size && i < here.size; i++) {
            long number = sheet.numbers[i];
            if (number >= 0 && number <= ALL_SECRETS) {
                here.visitor(i).learnJust((int) number);
                came++;
            }
        }
        return came;
    }

    public int book(int s, int person) {
        int fault = faultOfSheet(s);
        if (fault != 0) {
            return finding(fault);
        }
        if (!here.has(person)) {
            return finding(BEYOND);
        }
        Sheet sheet = sheets[s];
        ahead.become(here);
        for (int i = 0; i < sheet.size; i++) {
            sheet.put(i, ahead.visitor(person).known);
            ahead.letHoursGo(1);
        }
        return sheet.size;
    }

    public int read(int s, int person, int other) {
        int fault = faultOfSheet(s);
        if (fault != 0) {
            return finding(fault);
        }
        if (!areTwo(person, other)) {
            return finding(BEYOND);
        }
        int pairs = 0;
        for (int pair = 0; pair < KINDS * KINDS; pair++) {
            ahead.become(here);
            ahead.visitor(person).kind = pair / KINDS;
            ahead.visitor(other).kind = pair % KINDS;
            if (goesAsTold(sheets[s], person)) {
                pairs++;
            }
        }
        return pairs;
    }

    // ---- images

    public int image() {
        kept.become(here);
        isKept = true;
        return 1;
    }

    public int undo() {
        if (!isKept) {
            return finding(NONE);
        }
        here.become(kept);
        return here.size;
    }

    public int tear() {
        int was = isKept ? 1 : 0;
        isKept = false;
        return was;
    }

    public int count(int what) {
        switch (what) {
            case 0:
                return here.size;
            case 1:
                return tape.length;
            case 2:
                return here.heardByAll();
            case 3:
                return here.believedByAll();
            default:
                return finding(BEYOND);
        }
    }

    public int status(int which) {
        if (which < -1 || which >= FINDINGS) {
            return finding(BEYOND);
        }
        if (which >= 0) {
            return findings[which];
        }
        int all = 0;
        for (int i = 0; i < FINDINGS; i++) {
            all += findings[i];
        }
        return all;
    }

    // ---- what the calls rest on

    private int finding(int found) {
        int which = BEYOND - found;
        if (which >= 0 && which < FINDINGS) {
            findings[which]++;
        }
        return found;
    }

    /** The finding that a call for a sheet with numbers begins with; 0 if there is none. */
    private int faultOfSheet(int s) {
        if (!isSheet(s)) {
            return BEYOND;
        }
        return sheets[s].isMissing() ? MISSING : 0;
    }

    private boolean areTwo(int person, int other) {
        return here.has(person) && here.has(other) && person != other;
    }

    private int firstHour(int asked, int person, int thing) {
        ahead.become(here);
        for (int n = 0; n <= FARTHEST; n++) {
            if (isSoAhead(asked, person, thing)) {
                return n;
            }
            ahead.letHoursGo(1);
        }
        return finding(NONE);
    }

    private boolean isSoAhead(int asked, int person, int thing) {
        switch (asked) {
            case IS_KNOWN:
                return holds(ahead.visitor(person).known, thing);
            case IS_OUT:
                return holds(ahead.knownToAll(), thing);
            case HAVE_MET:
                return ahead.visitor(person).seat != NOWHERE && ahead.visitor(thing).seat != NOWHERE;
            default:
                return ahead.visitor(person).heard >= thing;
        }
    }

    private int learntAs(int person, int kind, int n) {
        ahead.become(here);
        Visitor one = ahead.visitor(person);
        one.kind = kind;
        ahead.letHoursGo(n);
        return Integer.bitCount(one.known);
    }

    private int heardWithout(int person, int secret, int n) {
        ahead.become(here);
        Visitor one = ahead.visitor(person);
        one.learnJust(one.known & ~(1 << secret));
        ahead.letHoursGo(n);
        return ahead.heardByAll();
    }

    private int spreadFrom(int person, int secret, int n) {
        ahead.become(here);
        Visitor one = ahead.visitor(person);
        one.known |= 1 << secret;
        one.believed |= 1 << secret;
        ahead.letHoursGo(n);
        return ahead.knownTo(secret);
    }

    private int believedIfTurned(int secret, int n) {
        ahead.become(here);
        ahead.shams ^= 1 << secret;
        ahead.letHoursGo(n);
        return ahead.believedByAll();
    }

    private boolean goesAsTold(Sheet sheet, int person) {
        for (int i = 0; i < sheet.size; i++) {
            if (sheet.numbers[i] != ahead.visitor(person).known) {
                return false;
            }
            ahead.letHoursGo(1);
        }
        return true;
    }

    private int leastOfBest(int candidates) {
        int best = 0;
        for (int i = 1; i < candidates && i < SECRETS; i++) {
            if (scores[i] > scores[best]) {
                best = i;
            }
        }
        return best;
    }

    private static boolean isSecret(int secret) {
        return secret >= 0 && secret < SECRETS;
    }

    private static boolean isSetOfSecrets(int set) {
        return set >= 0 && set <= ALL_SECRETS;
    }

    private static boolean isKind(int kind) {
        return kind >= 0 && kind < KINDS;
    }

    private static boolean isSheet(int s) {
        return s >= 0 && s < SHEETS;
    }

    private static boolean isUnder(int kind, int above) {
        int at = kind;
        for (int steps = 0; steps < KINDS && isKind(at); steps++) {
            if (at == above) {
                return true;
            }
            at = ABOVE[at];
        }
        return false;
    }

    private static boolean holds(int set, int secret) {
        return ((set >> secret) & 1) != 0;
    }

    private static int least(int set) {
        for (int secret = 0; secret < SECRETS; secret++) {
            if (holds(set, secret)) {
                return secret;
            }
        }
        return NO_SECRET;
    }

    private static int greatest(int set) {
        for (int secret = SECRETS - 1; secret >= 0; secret--) {
            if (holds(set, secret)) {
                return secret;
            }
        }
        return NO_SECRET;
    }

    // ---- the kinds (without @Override, as LANGUAGE.md names no annotation)

    /** The kind above all others; each kind under it tells only where it differs. */
    private static class Person {
        int says(Visitor one, int shams, int hourOfDay) {
            return saysAsPerson(one);
        }

        /** Apart from says(), for a kind two steps below that speaks as PERSON past the kind between. */
        final int saysAsPerson(Visitor one) {
            return least(one.believed != 0 ? one.believed : one.known);
        }

        boolean believes(boolean isSham, int knownBefore) {
            return !isSham || knownBefore < 3;
        }

        int stays(Visitor one) {
            return 3;
        }
    }

    private static class Actor extends Person {
        int says(Visitor one, int shams, int hourOfDay) {
            return greatest(one.known);
        }

        boolean believes(boolean isSham, int knownBefore) {
            return true;
        }

        int stays(Visitor one) {
            return super.stays(one) + 1;
        }
    }

    private static final class General extends Person {
        int says(Visitor one, int shams, int hourOfDay) {
            return shams != 0 ? least(shams) : saysAsPerson(one);
        }

        boolean believes(boolean isSham, int knownBefore) {
            return !isSham;
        }

        int stays(Visitor one) {
            return 9;
        }
    }

    private static class Wife extends Person {
        int says(Visitor one, int shams, int hourOfDay) {
            return NO_SECRET;
        }

        boolean believes(boolean isSham, int knownBefore) {
            return super.believes(isSham, knownBefore) || knownBefore >= 5;
        }

        int stays(Visitor one) {
            return 2 * super.stays(one);
        }
    }

    private static final class Lover extends Actor {
        int says(Visitor one, int shams, int hourOfDay) {
            return hourOfDay < NOON ? NO_SECRET : super.says(one, shams, hourOfDay);
        }

        int stays(Visitor one) {
            return super.stays(one) + Integer.bitCount(one.known) / 4;
        }
    }

    private static final class Spy extends Wife {
        int says(Visitor one, int shams, int hourOfDay) {
            return hourOfDay % 6 == 0 ? saysAsPerson(one) : super.says(one, shams, hourOfDay);
        }

        boolean believes(boolean isSham, int knownBefore) {
            return !isSham && super.believes(isSham, knownBefore);
        }
    }

    // ---- what is held

    /** One of the people. */
    private static final class Visitor {
        private int kind;
        private int known;
        private int believed;
        private int seat;
        private int sat;
        private int heard;

        void beNew(int asKind) {
            kind = asKind;
            known = 0;
            believed = 0;
            heard = 0;
            settle(NOWHERE);
        }

        void become(Visitor other) {
            kind = other.kind;
            known = other.known;
            believed = other.believed;
            seat = other.seat;
            sat = other.sat;
            heard = other.heard;
        }

        void settle(int onSeat) {
            seat = onSeat;
            sat = 0;
        }

        int learnJust(int secrets) {
            int was = known;
            known = secrets;
            believed &= secrets;
            return was;
        }

        int believeJust(int secrets) {
            int was = believed;
            believed = secrets;
            return was;
        }

        int haveHeard(int times) {
            int was = heard;
            heard = times;
            return was;
        }

        void hear(int secret, boolean isBelieved) {
            int bit = 1 << secret;
            known |= bit;
            believed = isBelieved ? believed | bit : believed & ~bit;
            heard = Math.min(heard + 1, MOST_HEARD);
        }

        void hearItself(int secret) {
            if (holds(known, secret)) {
                believed |= 1 << secret;
            }
        }
    }

    /** All that section 1 of the document tells, but for the tape. */
    private static final class Park {
        private final Person[] kinds;
        private final Visitor[] visitors;
        private int size;
        private int shams;
        private int hour;
        private int cameLast;

        Park(Person[] kindsToBe) {
            kinds = kindsToBe;
            visitors = new Visitor[MOST_PEOPLE];
            for (int i = 0; i < MOST_PEOPLE; i++) {
                visitors[i] = new Visitor();
            }
            size = 0;
            shams = 0;
            hour = 0;
            cameLast = NOBODY;
        }

        void become(Park other) {
            size = other.size;
            shams = other.shams;
            hour = other.hour;
            cameLast = other.cameLast;
            for (int i = 0; i < size; i++) {
                visitors[i].become(other.visitors[i]);
            }
        }

        boolean has(int person) {
            return person >= 0 && person < size;
        }

        boolean isFull() {
            return size >= MOST_PEOPLE;
        }

        /** Only for one that has() tells of. */
        Visitor visitor(int person) {
            return visitors[person];
        }

        /** Only where it isn't full. */
        int welcome(int kind) {
            visitors[size].beNew(kind);
            size++;
            return size - 1;
        }

        int hourOfDay() {
            return hour % HOURS_A_DAY;
        }

        boolean isMonday() {
            return hour / HOURS_A_DAY % DAYS_A_WEEK == 0;
        }

        int holder(int seat) {
            for (int i = 0; i < size; i++) {
                if (visitors[i].seat == seat) {
                    return i;
                }
            }
            return NOBODY;
        }

        int saidBy(int person) {
            if (hourOfDay() >= MOONRISE) {
                return NO_SECRET;
            }
            Visitor one = visitors[person];
            return kinds[one.kind].says(one, shams, hourOfDay());
        }

        boolean isTrusted(int person, int secret) {
            Visitor one = visitors[person];
            return kinds[one.kind].believes(holds(shams, secret), Integer.bitCount(one.known));
        }

        int stayOf(int person) {
            Visitor one = visitors[person];
            return kinds[one.kind].stays(one);
        }

        void letHoursGo(int n) {
            for (int i = 0; i < n; i++) {
                int first = holder(0);
                int second = holder(1);
                if (first != NOBODY && second != NOBODY) {
                    // Both are found out first: what one hears could change what it says.
                    int saidFirst = saidBy(first);
                    int saidSecond = saidBy(second);
                    bring(first, saidFirst, saidSecond);
                    bring(second, saidSecond, saidFirst);
                }
                int gone = sitOn(first) | sitOn(second);
                fill(0, gone);
                fill(1, gone);
                hour++;
            }
        }

        private void bring(int person, int own, int others) {
            Visitor one = visitors[person];
            if (isMonday()) {
                if (own != NO_SECRET) {
                    one.hearItself(own);
                }
            } else if (others != NO_SECRET) {
                one.hear(others, isTrusted(person, others));
            }
        }

        /** One hour more; who goes then, as a set. */
        private int sitOn(int person) {
            if (person == NOBODY) {
                return 0;
            }
            Visitor one = visitors[person];
            one.sat++;
            if (one.sat < stayOf(person)) {
                return 0;
            }
            one.settle(NOWHERE);
            return 1 << person;
        }

        private void fill(int seat, int gone) {
            if (holder(seat) != NOBODY) {
                return;
            }
            for (int step = 1; step <= size; step++) {
                int next = (cameLast + step) % size;
                if (visitors[next].seat == NOWHERE && !holds(gone, next)) {
                    visitors[next].settle(seat);
                    cameLast = next;
                    return;
                }
            }
        }

        int knownToAll() {
            int secrets = size == 0 ? 0 : ALL_SECRETS;
            for (int i = 0; i < size; i++) {
                secrets &= visitors[i].known;
            }
            return secrets;
        }

        int knownTo(int secret) {
            int people = 0;
            for (int i = 0; i < size; i++) {
                people += (visitors[i].known >> secret) & 1;
            }
            return people;
        }

        int heardByAll() {
            int heard = 0;
            for (int i = 0; i < size; i++) {
                heard += visitors[i].heard;
            }
            return heard;
        }

        int believedByAll() {
            int believed = 0;
            for (int i = 0; i < size; i++) {
                believed += Integer.bitCount(visitors[i].believed);
            }
            return believed;
        }
    }

    /** A row of numbers; of 0 bits while it is missing. */
    private static final class Sheet {
        private final long[] numbers = new long[SHEET_NUMBERS];
        private int bits;
        private int size;

        boolean isMissing() {
            return bits == 0;
        }

        void renew(int newBits, int newSize) {
            bits = newBits;
            size = newSize;
            for (int i = 0; i < SHEET_NUMBERS; i++) {
                numbers[i] = 0;
            }
        }

        boolean hasSpan(int from, int n) {
            return from >= 0 && n >= 0 && from <= size && n <= size - from;
        }

        /** Only for a number that there is. */
        long put(int i, long v) {
            long was = numbers[i];
            numbers[i] = cut(v);
            return was;
        }

        private long cut(long v) {
            switch (bits) {
                case 8:
                    return (byte) v;
                case 16:
                    return (short) v;
                default:
                    return v;
            }
        }
    }

    /** The tape, and the reading of it as the text of a park, one token at a time. */
    private static final class Tape {
        private static final int END = 0;
        private static final int WORD = 1;
        private static final int NUMBER = 2;
        private static final int SEMICOLON = 3;
        private static final int STRAY = 4;
        private static final int MOST_NUMBER = 999;

        private final int[] bytes = new int[TAPE_BYTES];
        private int length;
        /** The token at hand: what it is, where it begins, what stands behind it, and its value. */
        private int token;
        private int start;
        private int behind;
        private int value;

        /** Only where there is room. */
        void append(int oneByte) {
            bytes[length] = oneByte;
            length++;
        }

        /** How many items came to the park, or, with a fault, -1 less its place. */
        int tellTo(Park park) {
            behind = 0;
            advance();
            // No item is shorter than a byte, so that the bound is never met.
            for (int items = 1; items <= TAPE_BYTES; items++) {
                if (!tellItem(park)) {
                    return -1 - start;
                }
                if (token == END) {
                    return items;
                }
                if (token != SEMICOLON) {
                    return -1 - start;
                }
                advance();
            }
            return -1 - start;
        }

        /** False leaves the token that can't stand there at hand; so do all that it calls. */
        private boolean tellItem(Park park) {
            for (int kind = 0; kind < KINDS; kind++) {
                if (isWord(nameOf(kind))) {
                    return !park.isFull() && tellVisitor(park, kind);
                }
            }
            if (isWord("sham")) {
                return tellSecret(park, true);
            }
            return isWord("true") && tellSecret(park, false);
        }

        private boolean tellSecret(Park park, boolean isSham) {
            advance();
            if (!isNumberBelow(SECRETS)) {
                return false;
            }
            int bit = 1 << value;
            park.shams = isSham ? park.shams | bit : park.shams & ~bit;
            advance();
            return true;
        }

        private boolean tellVisitor(Park park, int kind) {
            Visitor one = park.visitor(park.welcome(kind));
            advance();
            if (isWord("knows") && !tellKnown(one)) {
                return false;
            }
            return !isWord("on") || tellSeat(park, one);
        }

        private boolean tellKnown(Visitor one) {
            advance();
            if (!isNumberBelow(SECRETS)) {
                return false;
            }
            for (int i = 0; i < SECRETS_IN_ITEM && isNumberBelow(SECRETS); i++) {
                one.known |= 1 << value;
                advance();
            }
            return true;
        }

        private boolean tellSeat(Park park, Visitor one) {
            advance();
            if (!isNumberBelow(SEATS) || park.holder(value) != NOBODY) {
                return false;
            }
            one.settle(value);
            advance();
            return true;
        }

        private static String nameOf(int kind) {
            switch (kind) {
                case 0:
                    return "person";
                case 1:
                    return "actor";
                case 2:
                    return "general";
                case 3:
                    return "wife";
                case 4:
                    return "lover";
                default:
                    return "spy";
            }
        }

        private boolean isWord(String word) {
            if (token != WORD || behind - start != word.length()) {
                return false;
            }
            for (int i = 0; i < word.length(); i++) {
                if (bytes[start + i] != word.charAt(i)) {
                    return false;
                }
            }
            return true;
        }

        private boolean isNumberBelow(int bound) {
            return token == NUMBER && value < bound;
        }

        private void advance() {
            start = behind;
            while (start < length && bytes[start] == ' ') {
                start++;
            }
            behind = start;
            if (start >= length) {
                token = END;
            } else if (isLetter(bytes[start])) {
                takeWord();
            } else if (isDigit(bytes[start])) {
                takeNumber();
            } else {
                token = bytes[start] == ';' ? SEMICOLON : STRAY;
                behind++;
            }
        }

        private void takeWord() {
            token = WORD;
            while (behind < length && isLetter(bytes[behind])) {
                behind++;
            }
        }

        private void takeNumber() {
            token = NUMBER;
            value = 0;
            while (behind < length && isDigit(bytes[behind])) {
                // Held just above the greatest number, so that a long row of digits doesn't wrap round.
                value = Math.min(10 * value + bytes[behind] - '0', MOST_NUMBER + 1);
                behind++;
            }
        }

        private static boolean isLetter(int oneByte) {
            return oneByte >= 'a' && oneByte <= 'z';
        }

        private static boolean isDigit(int oneByte) {
            return oneByte >= '0' && oneByte <= '9';
        }
    }
}
