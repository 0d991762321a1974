import java.util.ArrayList;
import java.util.Arrays;
import java.util.List;
import java.util.TreeSet;
import java.util.function.Predicate;
import java.util.function.ToIntFunction;
import java.util.regex.Matcher;
import java.util.regex.Pattern;

/**
 * The document told a second time, with all of the Java library and no thought of speed, so that
 * ModelTest can hold the class to it over long runs. It shares no code with the class.
 */
final class Model {
    private static final List<String> KINDS = List.of("person", "actor", "general", "wife", "lover", "spy");
    private static final List<String> FINDINGS = List.of("BEYOND", "FULL", "KIND", "NONE", "STATE", "MISSING", "SIZE");
    private static final Pattern TOKEN = Pattern.compile(" *([a-z]+|[0-9]+|;|[^ ]|$)", Pattern.DOTALL);

    private static final class One {
        String kind;
        TreeSet<Integer> known = new TreeSet<>();
        TreeSet<Integer> believed = new TreeSet<>();
        int seat = -1;
        int sat = 0;
        int heard = 0;

        One(String kind) {
            this.kind = kind;
        }

        One twin() {
            One twin = new One(kind);
            twin.known.addAll(known);
            twin.believed.addAll(believed);
            twin.seat = seat;
            twin.sat = sat;
            twin.heard = heard;
            return twin;
        }

        void know(int set) {
            known = secrets(set);
            believed.retainAll(known);
        }

        int stays() {
            return switch (kind) {
                case "person" -> 3;
                case "actor" -> 4;
                case "general" -> 9;
                case "lover" -> 4 + known.size() / 4;
                default -> 6;
            };
        }

        boolean trusts(boolean sham) {
            return switch (kind) {
                case "actor", "lover" -> true;
                case "person" -> !sham || known.size() <= 2;
                case "wife" -> !sham || known.size() <= 2 || known.size() > 4;
                default -> !sham;
            };
        }
    }

    private static final class World {
        List<One> people = new ArrayList<>();
        TreeSet<Integer> shams = new TreeSet<>();
        int hour = 0;
        int last = -1;

        World twin() {
            World twin = new World();
            people.forEach(one -> twin.people.add(one.twin()));
            twin.shams.addAll(shams);
            twin.hour = hour;
            twin.last = last;
            return twin;
        }

        World after(int n) {
            World twin = twin();
            for (int i = 0; i < n; i++) {
                twin.hourGoes();
            }
            return twin;
        }

        int holder(int seat) {
            for (One one : people) {
                if (one.seat == seat) {
                    return people.indexOf(one);
                }
            }
            return -1;
        }

        Integer says(One one) {
            int h = hour % 24;
            if (h == 22 || h == 23) {
                return null;
            }
            Integer plain = !one.believed.isEmpty() ? one.believed.first() : one.known.isEmpty() ? null : one.known.first();
            Integer grand = one.known.isEmpty() ? null : one.known.last();
            return switch (one.kind) {
                case "person" -> plain;
                case "actor" -> grand;
                case "general" -> shams.isEmpty() ? plain : shams.first();
                case "lover" -> h >= 12 ? grand : null;
                case "spy" -> h == 0 || h == 6 || h == 12 || h == 18 ? plain : null;
                default -> null;
            };
        }

        void hourGoes() {
            List<One> sitting = people.stream().filter(one -> one.seat >= 0).toList();
            if (sitting.size() == 2) {
                List<Integer> said = Arrays.asList(says(sitting.get(0)), says(sitting.get(1)));
                for (int i = 0; i < 2; i++) {
                    One one = sitting.get(i);
                    if (hour % 168 < 24) {
                        if (said.get(i) != null && one.known.contains(said.get(i))) {
                            one.believed.add(said.get(i));
                        }
                    } else if (said.get(1 - i) != null) {
                        hears(one, said.get(1 - i));
                    }
                }
            }
            List<One> went = new ArrayList<>();
            for (One one : sitting) {
                one.sat++;
                if (one.sat >= one.stays()) {
                    one.seat = -1;
                    one.sat = 0;
                    went.add(one);
                }
            }
            for (int seat = 0; seat < 2; seat++) {
                if (holder(seat) == -1) {
                    comes(seat, went);
                }
            }
            hour++;
        }

        void hears(One one, Integer secret) {
            boolean trusted = one.trusts(shams.contains(secret));
            one.known.add(secret);
            one.believed.remove(secret);
            if (trusted) {
                one.believed.add(secret);
            }
            if (one.heard < 9999) {
                one.heard++;
            }
        }

        void comes(int seat, List<One> went) {
            List<Integer> order = new ArrayList<>();
            for (int i = last + 1; i < people.size(); i++) {
                order.add(i);
            }
            for (int i = 0; i <= last; i++) {
                order.add(i);
            }
            for (int i : order) {
                One one = people.get(i);
                if (one.seat == -1 && !went.contains(one)) {
                    one.seat = seat;
                    one.sat = 0;
                    last = i;
                    return;
                }
            }
        }

        int heard() {
            return people.stream().mapToInt(one -> one.heard).sum();
        }

        int believed() {
            return people.stream().mapToInt(one -> one.believed.size()).sum();
        }

        int knowing(int secret) {
            return (int) people.stream().filter(one -> one.known.contains(secret)).count();
        }

        boolean isOut(int secret) {
            return !people.isEmpty() && knowing(secret) == people.size();
        }
    }

    private World world = new World();
    private World kept = null;
    private String tape = "";
    private final Number[][] sheets = new Number[4][];
    private final int[] bits = new int[4];
    private final int[] found = new int[7];

    private static int bits(Iterable<Integer> secrets) {
        int set = 0;
        for (int secret : secrets) {
            set += 1 << secret;
        }
        return set;
    }

    private static TreeSet<Integer> secrets(int set) {
        TreeSet<Integer> secrets = new TreeSet<>();
        for (int secret = 0; secret < 10; secret++) {
            if ((set & 1 << secret) != 0) {
                secrets.add(secret);
            }
        }
        return secrets;
    }

    private int finding(String name) {
        int which = FINDINGS.indexOf(name);
        found[which]++;
        return -1000000001 - which;
    }

    private boolean there(int person) {
        return 0 <= person && person < world.people.size();
    }

    private static boolean within(int v, int least, int most) {
        return least <= v && v <= most;
    }

    private int first(Predicate<World> wanted) {
        World on = world;
        for (int n = 0; n <= 200; n++) {
            if (wanted.test(on)) {
                return n;
            }
            on = on.after(1);
        }
        return finding("NONE");
    }

    private static int best(Iterable<Integer> candidates, ToIntFunction<Integer> worth) {
        int best = -1;
        int most = Integer.MIN_VALUE;
        for (int candidate : candidates) {
            int now = worth.applyAsInt(candidate);
            if (now > most) {
                most = now;
                best = candidate;
            }
        }
        return best;
    }

    public int sham(int set) {
        if (!within(set, 0, 1023)) {
            return finding("BEYOND");
        }
        int was = bits(world.shams);
        world.shams = secrets(set);
        return was;
    }

    public int who(int secret, int what) {
        if (!within(secret, 0, 9) || !within(what, 0, 1)) {
            return finding("BEYOND");
        }
        List<Integer> who = new ArrayList<>();
        for (int i = 0; i < world.people.size(); i++) {
            One one = world.people.get(i);
            if ((what == 0 ? one.known : one.believed).contains(secret)) {
                who.add(i);
            }
        }
        return bits(who);
    }

    public int person(int kind) {
        if (!within(kind, 0, 5)) {
            return finding("BEYOND");
        }
        if (world.people.size() == 8) {
            return finding("FULL");
        }
        world.people.add(new One(KINDS.get(kind)));
        return world.people.size() - 1;
    }

    public int of(int person, int what) {
        if (!there(person) || !within(what, 0, 7)) {
            return finding("BEYOND");
        }
        One one = world.people.get(person);
        Integer said = world.says(one);
        return List.of(KINDS.indexOf(one.kind), bits(one.known), bits(one.believed), one.seat, one.sat, one.heard,
            said == null ? -1 : said, one.stays()).get(what);
    }

    public int set(int person, int what, int v) {
        if (!there(person) || !(what == 1 || what == 2 || what == 5)) {
            return finding("BEYOND");
        }
        One one = world.people.get(person);
        if (!within(v, 0, what == 5 ? 9999 : 1023) || what == 2 && !one.known.containsAll(secrets(v))) {
            return finding("BEYOND");
        }
        int was = of(person, what);
        switch (what) {
            case 1 -> one.know(v);
            case 2 -> one.believed = secrets(v);
            default -> one.heard = v;
        }
        return was;
    }

    public int turn(int person, int kind) {
        if (!there(person) || !within(kind, 0, 5)) {
            return finding("BEYOND");
        }
        int was = of(person, 0);
        world.people.get(person).kind = KINDS.get(kind);
        return was;
    }

    public int as(int person, int kind) {
        if (!there(person) || !within(kind, 0, 5)) {
            return finding("BEYOND");
        }
        One one = world.people.get(person);
        boolean is = kind == 0 || one.kind.equals(KINDS.get(kind))
            || one.kind.equals("lover") && kind == 1 || one.kind.equals("spy") && kind == 3;
        return is ? one.heard : finding("KIND");
    }

    public int sit(int person, int seat) {
        if (!there(person) || !within(seat, -1, 1)) {
            return finding("BEYOND");
        }
        One one = world.people.get(person);
        for (One other : world.people) {
            if (other != one && seat != -1 && other.seat == seat) {
                return finding("STATE");
            }
        }
        int was = one.seat;
        one.seat = seat;
        one.sat = 0;
        return was;
    }

    public int trusts(int person, int secret) {
        if (!there(person) || !within(secret, 0, 9)) {
            return finding("BEYOND");
        }
        return world.people.get(person).trusts(world.shams.contains(secret)) ? 1 : 0;
    }

    public int hours(int n) {
        if (!within(n, 1, 100)) {
            return finding("BEYOND");
        }
        if (world.hour + n > 99999) {
            return finding("STATE");
        }
        world = world.after(n);
        return world.heard();
    }

    public int now(int what) {
        if (!within(what, 0, 7)) {
            return finding("BEYOND");
        }
        List<Integer> out = new ArrayList<>(secrets(1023));
        out.removeIf(secret -> !world.isOut(secret));
        return List.of(world.hour, world.hour % 24, world.hour % 168 < 24 ? 1 : 0, world.holder(0), world.holder(1),
            bits(out), bits(world.shams), world.last).get(what);
    }

    public int on(int person, int n, int what) {
        if (!there(person) || !within(n, 0, 200) || !within(what, 0, 2)) {
            return finding("BEYOND");
        }
        One one = world.after(n).people.get(person);
        return List.of(bits(one.known), bits(one.believed), one.seat).get(what);
    }

    public int knows(int person, int secret) {
        if (!there(person) || !within(secret, 0, 9)) {
            return finding("BEYOND");
        }
        return first(on -> on.people.get(person).known.contains(secret));
    }

    public int out(int secret) {
        if (!within(secret, 0, 9)) {
            return finding("BEYOND");
        }
        return first(on -> on.isOut(secret));
    }

    public int meet(int person, int other) {
        if (!there(person) || !there(other) || person == other) {
            return finding("BEYOND");
        }
        return first(on -> on.people.get(person).seat + on.people.get(other).seat == 1
            && on.people.get(person).seat * on.people.get(other).seat == 0);
    }

    public int kind(int person, int n) {
        if (!there(person) || !within(n, 1, 100)) {
            return finding("BEYOND");
        }
        return best(List.of(0, 1, 2, 3, 4, 5), kind -> {
            World as = world.twin();
            as.people.get(person).kind = KINDS.get(kind);
            return as.after(n).people.get(person).known.size();
        });
    }

    public int forget(int person, int n) {
        if (!there(person) || !within(n, 1, 60)) {
            return finding("BEYOND");
        }
        TreeSet<Integer> known = world.people.get(person).known;
        if (known.isEmpty()) {
            return finding("NONE");
        }
        return best(known, secret -> {
            World without = world.twin();
            without.people.get(person).known.remove(secret);
            without.people.get(person).believed.remove(secret);
            return without.after(n).heard();
        });
    }

    public int confide(int person, int n) {
        if (!there(person) || !within(n, 1, 60)) {
            return finding("BEYOND");
        }
        TreeSet<Integer> unknown = secrets(1023);
        unknown.removeAll(world.people.get(person).known);
        if (unknown.isEmpty()) {
            return finding("NONE");
        }
        return best(unknown, secret -> {
            World told = world.twin();
            told.people.get(person).known.add(secret);
            told.people.get(person).believed.add(secret);
            return told.after(n).knowing(secret);
        });
    }

    public int enough(int person, int v) {
        if (!there(person) || !within(v, 1, 99)) {
            return finding("BEYOND");
        }
        int heard = world.people.get(person).heard;
        return first(on -> on.people.get(person).heard - heard >= v);
    }

    public int doubt(int n) {
        if (!within(n, 1, 60)) {
            return finding("BEYOND");
        }
        return best(secrets(1023), secret -> {
            World otherwise = world.twin();
            if (!otherwise.shams.remove(secret)) {
                otherwise.shams.add(secret);
            }
            return otherwise.after(n).believed();
        });
    }

    public int wisest(int n) {
        if (!within(n, 0, 200)) {
            return finding("BEYOND");
        }
        if (world.people.isEmpty()) {
            return finding("NONE");
        }
        World on = world.after(n);
        List<Integer> all = new ArrayList<>();
        on.people.forEach(one -> all.add(all.size()));
        return best(all, i -> on.people.get(i).known.size());
    }

    public int feed(int bytes, int n) {
        if (!within(n, 1, 4)) {
            return finding("BEYOND");
        }
        if (tape.length() + n > 120) {
            return finding("FULL");
        }
        String more = "";
        for (int i = 0; i < n; i++) {
            more = (char) (bytes & 255) + more;
            bytes >>>= 8;
        }
        tape += more;
        return tape.length();
    }

    public int wipe() {
        int had = tape.length();
        tape = "";
        return had;
    }

    /** By a table of what may stand behind what; the state is named by what stood last. */
    public int park() {
        World then = world.twin();
        Matcher tokens = TOKEN.matcher(tape);
        String end = tape;
        tape = "";
        String state = ";";
        int items = 0;
        int known = 0;
        while (tokens.find()) {
            String token = tokens.group(1);
            int fault = -1 - tokens.start(1);
            if (token.isEmpty()) {
                if (!List.of("kind", "secret", "seat", "truth").contains(state)) {
                    return -1 - end.length();
                }
                world = then;
                return items;
            }
            String next = next(state, token, then, known);
            if (next == null) {
                return fault;
            }
            One one = then.people.isEmpty() ? null : then.people.get(then.people.size() - 1);
            switch (next) {
                case "kind" -> {
                    then.people.add(new One(token));
                    items++;
                    known = 0;
                }
                case "sham", "true" -> items++;
                case "secret" -> {
                    one.known.add(Integer.parseInt(token));
                    known++;
                }
                case "seat" -> one.seat = Integer.parseInt(token);
                case "truth" -> {
                    then.shams.remove(Integer.parseInt(token));
                    if (state.equals("sham")) {
                        then.shams.add(Integer.parseInt(token));
                    }
                }
                default -> { }
            }
            state = next;
        }
        throw new IllegalStateException("the last token is the end");
    }

    private static String next(String state, String token, World then, int known) {
        boolean secret = token.matches("0*[0-9]");
        boolean behindItem = token.equals(";");
        switch (state) {
            case ";":
                if (KINDS.contains(token)) {
                    return then.people.size() < 8 ? "kind" : null;
                }
                return token.equals("sham") || token.equals("true") ? token : null;
            case "sham", "true":
                return secret ? "truth" : null;
            case "truth", "seat":
                return behindItem ? ";" : null;
            case "kind":
                return token.equals("knows") || token.equals("on") || behindItem ? token : null;
            case "knows":
                return secret ? "secret" : null;
            case "secret":
                if (secret) {
                    return known < 4 ? "secret" : null;
                }
                return token.equals("on") || behindItem ? token : null;
            default:
                return token.matches("0*[01]") && then.holder(Integer.parseInt(token)) == -1 ? "seat" : null;
        }
    }

    public int sheet(int s, int wide, int n) {
        if (!within(s, 0, 3) || !List.of(0, 8, 16, 64).contains(wide)) {
            return finding("BEYOND");
        }
        if (n < 0) {
            return finding("SIZE");
        }
        if (n > 40) {
            return finding("BEYOND");
        }
        bits[s] = wide;
        sheets[s] = wide == 0 ? null : new Number[n];
        if (wide == 0) {
            return 0;
        }
        Arrays.fill(sheets[s], cut(s, 0));
        return n;
    }

    private Number cut(int s, long v) {
        return bits[s] == 8 ? (Number) (byte) v : bits[s] == 16 ? (Number) (short) v : (Number) v;
    }

    public long write(int s, int i, long v) {
        if (!within(s, 0, 3)) {
            return finding("BEYOND");
        }
        if (sheets[s] == null) {
            return finding("MISSING");
        }
        if (!within(i, 0, sheets[s].length - 1)) {
            return finding("BEYOND");
        }
        long was = sheets[s][i].longValue();
        sheets[s][i] = cut(s, v);
        return was;
    }

    public int copy(int s, int from, int t, int to, int n) {
        if (!within(s, 0, 3) || !within(t, 0, 3)) {
            return finding("BEYOND");
        }
        if (sheets[s] == null || sheets[t] == null) {
            return finding("MISSING");
        }
        if (bits[s] != bits[t]) {
            return finding("KIND");
        }
        if (from < 0 || to < 0 || n < 0 || (long) from + n > sheets[s].length || (long) to + n > sheets[t].length) {
            return finding("BEYOND");
        }
        Number[] were = sheets[s].clone();
        for (int i = 0; i < n; i++) {
            sheets[t][to + i] = were[from + i];
        }
        return n;
    }

    public int lays(int s) {
        if (!within(s, 0, 3)) {
            return finding("BEYOND");
        }
        if (sheets[s] == null) {
            return finding("MISSING");
        }
        int came = 0;
        for (int i = 0; i < Math.min(sheets[s].length, world.people.size()); i++) {
            long v = sheets[s][i].longValue();
            if (v == (v & 1023)) {
                world.people.get(i).know((int) v);
                came++;
            }
        }
        return came;
    }

    public int book(int s, int person) {
        if (!within(s, 0, 3)) {
            return finding("BEYOND");
        }
        if (sheets[s] == null) {
            return finding("MISSING");
        }
        if (!there(person)) {
            return finding("BEYOND");
        }
        for (int i = 0; i < sheets[s].length; i++) {
            sheets[s][i] = cut(s, bits(world.after(i).people.get(person).known));
        }
        return sheets[s].length;
    }

    public int read(int s, int person, int other) {
        if (!within(s, 0, 3)) {
            return finding("BEYOND");
        }
        if (sheets[s] == null) {
            return finding("MISSING");
        }
        if (!there(person) || !there(other) || person == other) {
            return finding("BEYOND");
        }
        int pairs = 0;
        for (String kind : KINDS) {
            for (String otherKind : KINDS) {
                World as = world.twin();
                as.people.get(person).kind = kind;
                as.people.get(other).kind = otherKind;
                boolean so = true;
                for (int i = 0; so && i < sheets[s].length; i++) {
                    so = sheets[s][i].longValue() == bits(as.after(i).people.get(person).known);
                }
                pairs += so ? 1 : 0;
            }
        }
        return pairs;
    }

    public int image() {
        kept = world.twin();
        return 1;
    }

    public int undo() {
        if (kept == null) {
            return finding("NONE");
        }
        world = kept.twin();
        return world.people.size();
    }

    public int tear() {
        int was = kept == null ? 0 : 1;
        kept = null;
        return was;
    }

    public int count(int what) {
        if (!within(what, 0, 3)) {
            return finding("BEYOND");
        }
        return List.of(world.people.size(), tape.length(), world.heard(), world.believed()).get(what);
    }

    public int status(int which) {
        if (!within(which, -1, 6)) {
            return finding("BEYOND");
        }
        return which == -1 ? Arrays.stream(found).sum() : found[which];
    }
}
