import java.util.Random;

/** Any arguments in any state: no call may throw, and each answers -5 or more. */
public final class HostileTest {
    private static final int[] SOME = {
        Integer.MIN_VALUE, Integer.MIN_VALUE + 1, -1000000007, -65536, -1000, -121, -120, -10, -5, -3, -2, -1, 0, 1, 2, 3,
        4, 5, 6, 7, 8, 9, 10, 12, 19, 20, 23, 24, 30, 31, 59, 60, 61, 64, 101, 102, 131, 150, 151, 200, 229, 250, 251,
        305, 306, 365, 366, 367, 1000, 1225, 1231, 1900, 2000, 2024, 2199, 2200, 65536, 1000000007,
        Integer.MAX_VALUE - 60, Integer.MAX_VALUE - 1, Integer.MAX_VALUE};

    private final Random random;
    private final ChoirBook book = new ChoirBook();

    private HostileTest(int seed) {
        random = new Random(seed);
    }

    public static void main(String[] args) {
        for (int seed = 0; seed < 400; seed++) {
            HostileTest run = new HostileTest(seed);
            for (int n = 0; n < 512; n++) {
                int which = run.random.nextInt(30);
                int got = run.call(which);
                Check.due("run " + seed + ", call " + n + " (" + which + "), " + got + " is an answer", got >= -5 ? 1 : 0, 1);
            }
        }
        Check.end("HostileTest");
    }

    private int any() {
        return random.nextInt(5) == 0 ? random.nextInt() : SOME[random.nextInt(SOME.length)];
    }

    private int low() {
        return random.nextInt(3) == 0 ? any() : random.nextInt(10);
    }

    private int year() {
        return random.nextInt(4) == 0 ? any() : 2020 + random.nextInt(6);
    }

    private int call(int which) {
        switch (which) {
            case 0: return book.year(year(), low());
            case 1: return book.day(year(), low(), any());
            case 2: return book.season(any(), any(), low(), low(), low());
            case 3: return book.dated(any(), any(), low(), low(), low());
            case 4: return book.feast(low(), any(), low(), low(), low());
            case 5: return book.around(low(), low(), random.nextBoolean());
            case 6: return book.raise(low(), low(), low());
            case 7: return book.office(year(), any(), low());
            case 8: return book.also(year(), any(), low(), low());
            case 9: return book.kept(year(), low());
            case 10: return book.tally(year(), low(), low());
            case 11: return book.verses(any(), any());
            case 12: return book.hours(low());
            case 13: return book.fix(any(), low());
            case 14: return book.festal(low(), any());
            case 15: return book.limit(low());
            case 16: return book.dealt(low(), low(), low());
            case 17: return book.sung(year(), any(), low(), low());
            case 18: return book.times(year(), any(), any(), any());
            case 19: return book.tenor(low(), low());
            case 20: return book.note(low(), low(), low());
            case 21: return book.accent(low(), low(), low(), low(), low(), low());
            case 22: return book.accents(low(), low(), low());
            case 23: return book.syllable(low(), random.nextBoolean());
            case 24: return book.part(low());
            case 25: return book.sing(low(), low(), low());
            case 26: return book.monk(low());
            case 27: return book.absence(low(), year(), any(), any());
            case 28: return book.roster(year(), any(), any());
            default: return random.nextBoolean() ? book.turn(low(), low(), low()) : book.had(low(), low());
        }
    }
}
