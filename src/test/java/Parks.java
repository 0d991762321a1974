import java.util.Random;

/** Parks drawn from fixed seeds: the same seed, the same park, made anew as often as it is wanted. */
final class Parks {
    private Parks() {
    }

    static WhisperSeats drawn(int seed) {
        Random random = new Random(seed);
        WhisperSeats x = new WhisperSeats();
        go(x, random.nextInt(200));
        int size = 2 + random.nextInt(7);
        for (int i = 0; i < size; i++) {
            x.person(random.nextInt(6));
            int known = few(random);
            x.set(i, 1, known);
            x.set(i, 2, known & random.nextInt());
            x.set(i, 5, random.nextInt(30));
        }
        x.sham(few(random));
        x.sit(random.nextInt(size), random.nextInt(2));
        x.sit(random.nextInt(size), random.nextInt(2));
        return x;
    }

    /** With most secrets known there is little left to be told, so that few are drawn. */
    private static int few(Random random) {
        return random.nextInt(1024) & random.nextInt(1024);
    }

    /** A drawn park in which hours have gone since, so that some have sat a while and came in turn; and then n more. */
    static WhisperSeats lived(int seed, int n) {
        return later(seed, 1 + 7 * seed % 40 + n);
    }

    static WhisperSeats lived(int seed) {
        return lived(seed, 0);
    }

    /** A drawn park, so many hours later. */
    static WhisperSeats later(int seed, int hours) {
        WhisperSeats x = drawn(seed);
        go(x, hours);
        return x;
    }

    static void go(WhisperSeats x, int hours) {
        for (int left = hours; left > 0; left -= 100) {
            x.hours(Math.min(left, 100));
        }
    }
}
