import java.lang.reflect.InvocationTargetException;
import java.lang.reflect.Method;
import java.util.ArrayList;
import java.util.Arrays;
import java.util.Comparator;
import java.util.List;
import java.util.Map;
import java.util.Random;

/** All promises: long runs of calls, drawn from fixed seeds, answered as Model answers them. */
public final class ModelTest {
    private static final int RUNS = 400;
    private static final int CALLS = 512;

    /** What each argument is drawn from, least and most, one step past the document's limits. */
    private static final Map<String, int[]> RANGES = Map.ofEntries(
        Map.entry("sham", new int[] {-1, 1024}), Map.entry("who", new int[] {-1, 10, -1, 2}),
        Map.entry("person", new int[] {-1, 6}), Map.entry("of", new int[] {-1, 8, -1, 8}),
        Map.entry("set", new int[] {-1, 8, 0, 5, -1, 1024}), Map.entry("turn", new int[] {-1, 8, -1, 6}),
        Map.entry("as", new int[] {-1, 8, -1, 6}), Map.entry("sit", new int[] {-1, 8, -2, 2}),
        Map.entry("trusts", new int[] {-1, 8, -1, 10}), Map.entry("hours", new int[] {0, 101}),
        Map.entry("now", new int[] {-1, 8}), Map.entry("on", new int[] {-1, 8, -1, 201, -1, 3}),
        Map.entry("knows", new int[] {-1, 8, -1, 10}), Map.entry("out", new int[] {-1, 10}),
        Map.entry("meet", new int[] {-1, 8, -1, 8}), Map.entry("kind", new int[] {-1, 8, 0, 101}),
        Map.entry("forget", new int[] {-1, 8, 0, 61}), Map.entry("confide", new int[] {-1, 8, 0, 61}),
        Map.entry("enough", new int[] {-1, 8, 0, 100}), Map.entry("doubt", new int[] {0, 61}),
        Map.entry("wisest", new int[] {-1, 201}), Map.entry("feed", new int[] {0, Integer.MAX_VALUE, 0, 5}),
        Map.entry("sheet", new int[] {-1, 4, 0, 64, -1, 41}), Map.entry("write", new int[] {-1, 4, -1, 40}),
        Map.entry("copy", new int[] {-1, 4, -1, 20, -1, 4, -1, 20, -1, 20}), Map.entry("lays", new int[] {-1, 4}),
        Map.entry("book", new int[] {-1, 4, -1, 8}), Map.entry("read", new int[] {-1, 4, -1, 8, -1, 8}),
        Map.entry("count", new int[] {-1, 4}), Map.entry("status", new int[] {-2, 7}));

    private static final String[] WORDS = {
        "person", "actor", "general", "wife", "lover", "spy", "knows", "knows", "on", "on", "sham", "true", ";", ";", ";",
        "0", "1", "2", "7", "9", "10", "007", "1000", "wives", "Spy", "-", " ", "\t",
    };

    public static void main(String[] args) throws ReflectiveOperationException {
        List<Method> calls = new ArrayList<>();
        for (Method call : WhisperSeats.class.getDeclaredMethods()) {
            if (java.lang.reflect.Modifier.isPublic(call.getModifiers())) {
                calls.add(call);
            }
        }
        calls.sort(Comparator.comparing(Method::getName));
        for (int run = 0; run < RUNS; run++) {
            if (!agrees(run, calls, new Random(run))) {
                break;
            }
        }
        Check.end();
    }

    private static boolean agrees(int run, List<Method> calls, Random random) throws ReflectiveOperationException {
        WhisperSeats seats = new WhisperSeats();
        Model model = new Model();
        StringBuilder told = new StringBuilder();
        int left = CALLS;
        while (left > 0) {
            List<Object[]> next = random.nextInt(12) == 0 ? text(random) : List.<Object[]>of(drawn(calls, random));
            for (Object[] call : next) {
                if (left-- == 0) {
                    break;
                }
                Method method = method(calls, (String) call[0]);
                Object[] args = Arrays.copyOfRange(call, 1, call.length);
                long got = ((Number) method.invoke(seats, args)).longValue();
                long due = answer(model, method, args);
                String line = call[0] + Arrays.toString(args);
                told.append("  ").append(line).append(" = ").append(due).append('\n');
                Check.due("run " + run + ": " + line, got, due);
                if (got != due) {
                    System.out.print(told);
                    return false;
                }
            }
        }
        return true;
    }

    private static long answer(Model model, Method method, Object[] args) throws ReflectiveOperationException {
        Method twin = Model.class.getMethod(method.getName(), method.getParameterTypes());
        try {
            return ((Number) twin.invoke(model, args)).longValue();
        } catch (InvocationTargetException fault) {
            throw new IllegalStateException(method.getName() + Arrays.toString(args), fault);
        }
    }

    private static Method method(List<Method> calls, String name) {
        return calls.stream().filter(call -> call.getName().equals(name)).findFirst().orElseThrow();
    }

    private static Object[] drawn(List<Method> calls, Random random) {
        Method method = calls.get(random.nextInt(calls.size()));
        int[] range = RANGES.getOrDefault(method.getName(), new int[0]);
        Object[] call = new Object[1 + method.getParameterCount()];
        call[0] = method.getName();
        for (int i = 0; 2 * i < range.length; i++) {
            call[i + 1] = number(random, range[2 * i], range[2 * i + 1]);
        }
        switch (method.getName()) {
            case "set" -> call[3] = value(random, (int) call[2], (int) call[3]);
            case "hours" -> call[1] = random.nextInt(4) > 0 ? random.nextInt(6) : call[1];
            case "sheet" -> call[2] = new int[] {8, 16, 16, 64, 64, 0, 32}[random.nextInt(7)];
            case "write" -> call[3] = random.nextInt(3) > 0 ? random.nextInt(1100) - 10L : random.nextLong();
            default -> { }
        }
        return call;
    }

    private static int number(Random random, int least, int most) {
        if (random.nextInt(300) == 0) {
            return random.nextBoolean() ? Integer.MIN_VALUE : Integer.MAX_VALUE;
        }
        // The ends are findings for the most part, so they are drawn less often than the rest.
        if (random.nextInt(6) > 0 && most - least > 2 && most < Integer.MAX_VALUE) {
            return least + 1 + random.nextInt(most - least - 1);
        }
        return most == Integer.MAX_VALUE ? random.nextInt() : least + random.nextInt(most - least + 1);
    }

    private static int value(Random random, int what, int drawn) {
        if (what == 5) {
            return random.nextInt(4) == 0 ? 9990 + random.nextInt(11) : random.nextInt(50);
        }
        // Few secrets at a time: with most of them known there is little left to be heard.
        return random.nextInt(4) > 0 ? drawn & random.nextInt() & random.nextInt() & 1023 : drawn;
    }

    /** Calls that feed a text, mostly well formed, and read it. */
    private static List<Object[]> text(Random random) {
        StringBuilder text = new StringBuilder();
        int items = 1 + random.nextInt(3);
        for (int i = 0; i < items; i++) {
            text.append(i > 0 ? random.nextInt(20) == 0 ? " " : ";" : "").append(item(random));
        }
        if (random.nextInt(3) == 0) {
            text.insert(random.nextInt(text.length() + 1), WORDS[random.nextInt(WORDS.length)]);
        }
        if (random.nextInt(5) == 0) {
            text.setLength(random.nextInt(text.length() + 1));
        }
        List<Object[]> calls = new ArrayList<>();
        calls.add(new Object[] {"wipe"});
        for (int i = 0; i < text.length();) {
            int n = Math.min(1 + random.nextInt(4), text.length() - i);
            int bytes = random.nextInt();
            for (int k = 0; k < n; k++) {
                bytes = bytes << 8 | text.charAt(i++);
            }
            calls.add(new Object[] {"feed", bytes, n});
        }
        calls.add(new Object[] {"park"});
        return calls;
    }

    private static String item(Random random) {
        if (random.nextInt(3) == 0) {
            return (random.nextBoolean() ? "sham " : " true") + random.nextInt(11);
        }
        StringBuilder item = new StringBuilder(WORDS[random.nextInt(6)]);
        if (random.nextBoolean()) {
            item.append(" knows");
            for (int i = random.nextInt(8) == 0 ? 6 : 1 + random.nextInt(4); i > 0; i--) {
                item.append(' ').append(random.nextInt(10));
            }
        }
        if (random.nextInt(3) == 0) {
            item.append(" on ").append(random.nextInt(3));
        }
        return item.toString();
    }
}
