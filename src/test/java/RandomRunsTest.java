import java.util.Random;

/** Runs of at most 512 calls on a ChoirBook and on a PlainBook beside it, always the same ones. */
public final class RandomRunsTest {
    /** No step below makes more calls than the 22 that are left behind these. */
    private static final int CALLS_BEFORE_THE_LAST_STEP = 490;

    private static final int[] EXTREMES = {
        Integer.MIN_VALUE, Integer.MIN_VALUE + 1, -1000, -121, -3, -2, -1, 0, 1, 61, 1000, 2200, 100000,
        Integer.MAX_VALUE - 1, Integer.MAX_VALUE};

    private final Random random;
    private final ChoirBook book = new ChoirBook();
    private final PlainBook plain = new PlainBook();
    private final int mainYear;
    private final int firstDay;
    private final int spread;
    private final int wrongness;
    private final String run;
    private int calls;

    private RandomRunsTest(int seed) {
        random = new Random(seed);
        run = "run " + seed;
        mainYear = 1900 + random.nextInt(300);
        // Days near one another make feasts meet; now and then they lie at the year's ends.
        spread = random.nextBoolean() ? 12 : 60;
        int place = random.nextInt(4);
        firstDay = place == 0 ? 0 : place == 1 ? 365 - spread : random.nextInt(366 - spread);
        wrongness = random.nextBoolean() ? 12 : 60;
    }

    public static void main(String[] args) {
        for (int seed = 0; seed < 500; seed++) {
            RandomRunsTest run = new RandomRunsTest(seed);
            int steps = 50 + run.random.nextInt(200);
            for (int n = 0; n < 512 && run.calls <= CALLS_BEFORE_THE_LAST_STEP; n++) {
                run.call(n < steps ? run.random.nextInt(2) : 2 + run.random.nextInt(3), seed % 4);
            }
        }
        Check.end("RandomRunsTest");
    }

    private int num(int low, int high) {
        if (random.nextInt(wrongness) == 0) {
            int kind = random.nextInt(3);
            return kind == 0 ? low - 1 : kind == 1 ? high + 1 : EXTREMES[random.nextInt(EXTREMES.length)];
        }
        return low + random.nextInt(high - low + 1);
    }

    private int aYear() {
        return random.nextInt(6) == 0 ? num(1900, 2199) : mainYear;
    }

    private int aDay() {
        return random.nextInt(4) == 0 ? num(0, 365) : firstDay + random.nextInt(spread);
    }

    private int aDate() {
        if (random.nextInt(5) == 0) {
            return num(1, 12) * 100 + num(1, 31);
        }
        java.time.LocalDate d = java.time.LocalDate.ofYearDay(2000, firstDay + 1 + random.nextInt(spread));
        return d.getMonthValue() * 100 + d.getDayOfMonth();
    }

    private int fromEaster() {
        if (random.nextInt(3) == 0) {
            return num(-120, 250);
        }
        calls++;
        int easter = book.year(mainYear, 2);
        return firstDay + random.nextInt(spread) - easter;
    }

    private void call(int phase, int theme) {
        boolean asks = phase >= 2;
        int area = theme < 3 ? theme : random.nextInt(3);
        if (random.nextInt(10) == 0) {
            area = random.nextInt(4);
            asks = random.nextBoolean();
        }
        switch (area) {
            case 0 -> rubrics(asks);
            case 1 -> psalms(asks);
            case 2 -> monksAndTones(asks);
            default -> days();
        }
    }

    private void days() {
        int a = aYear();
        int b = num(1, 12);
        int c = num(1, 31);
        int what = num(0, 2);
        due("year " + a + " " + what, book.year(a, what), plain.year(a, what));
        due("day " + a + " " + b + " " + c, book.day(a, b, c), plain.day(a, b, c));
    }

    private void rubrics(boolean asks) {
        int year = aYear();
        int feast = num(0, 59);
        switch (asks ? 5 + random.nextInt(6) : random.nextInt(10) < 6 ? 2 : random.nextInt(5)) {
            case 0 -> {
                int from = fromEaster();
                int to = random.nextBoolean() ? from + random.nextInt(40) : fromEaster();
                int s = num(1, 9);
                int w = num(0, 8);
                int c = num(0, 7);
                if (random.nextInt(4) == 0) {
                    due("season " + from + " " + to, book.season(from, to, s, w, c), plain.season(from, to, s, w, c));
                }
            }
            case 1 -> {
                int from = aDate();
                int to = aDate();
                int s = num(1, 9);
                int w = num(0, 8);
                int c = num(0, 7);
                if (random.nextInt(4) == 0) {
                    due("dated " + from + " " + to, book.dated(from, to, s, w, c), plain.dated(from, to, s, w, c));
                }
            }
            case 2 -> {
                int sort = num(0, 2);
                int a = sort == 0 ? aDate() : sort == 1 ? fromEaster() : aDate() / 100 * 100 + num(0, 6) * 10 + num(1, 5);
                int rank = num(1, 9);
                int c = num(0, 7);
                int way = num(0, 2);
                due("feast " + sort + " " + a, book.feast(sort, a, rank, c, way), plain.feast(sort, a, rank, c, way));
            }
            case 3 -> {
                int octave = num(0, 8);
                boolean vigil = random.nextBoolean();
                int some = random.nextBoolean() ? feast : random.nextInt(12);
                due("around " + some, book.around(some, octave, vigil), plain.around(some, octave, vigil));
            }
            case 4 -> {
                int rank = num(1, 9);
                int way = num(0, 2);
                int some = random.nextBoolean() ? feast : random.nextInt(12);
                due("raise " + some, book.raise(some, rank, way), plain.raise(some, rank, way));
            }
            case 5 -> {
                int day = aDay();
                for (int what = -1; what < 7; what++) {
                    due("office " + year + " " + day + " " + what, book.office(year, day, what), plain.office(year, day, what));
                }
            }
            case 6 -> {
                int day = aDay();
                int i = num(0, 2);
                for (int what = -1; what < 4; what++) {
                    due("also " + year + " " + day, book.also(year, day, i, what), plain.also(year, day, i, what));
                }
            }
            case 7, 8 -> due("kept " + year + " " + feast, book.kept(year, feast), plain.kept(year, feast));
            default -> {
                int what = num(0, 6);
                int v = what > 2 ? num(0, 0) : num(-1, 9);
                due("tally " + year + " " + what + " " + v, book.tally(year, what, v), plain.tally(year, what, v));
            }
        }
    }

    private void psalms(boolean asks) {
        int psalm = num(1, 150);
        int hour = num(0, 6);
        switch (asks ? 5 + random.nextInt(4) : random.nextInt(20) == 0 ? 5 + random.nextInt(4) : random.nextInt(5)) {
            case 0 -> {
                int many = num(1, random.nextBoolean() ? 200 : 30);
                due("verses " + psalm, book.verses(psalm, many), plain.verses(psalm, many));
            }
            case 1 -> {
                int many = num(1, 8);
                due("hours " + many, book.hours(many), plain.hours(many));
            }
            case 2 -> {
                int some = random.nextInt(4) == 0 ? -1 : hour;
                due("fix " + psalm + " " + some, book.fix(psalm, some), plain.fix(psalm, some));
            }
            case 3 -> due("festal " + hour, book.festal(hour, psalm), plain.festal(hour, psalm));
            case 4 -> {
                int rank = random.nextInt(3) == 0 ? num(1, 10) : 3;
                due("limit " + rank, book.limit(rank), plain.limit(rank));
            }
            case 5 -> {
                int weekday = num(0, 6);
                int what = num(0, 3);
                due("dealt " + weekday + " " + hour + " " + what, book.dealt(weekday, hour, what),
                    plain.dealt(weekday, hour, what));
            }
            case 6, 7 -> {
                int year = aYear();
                int day = aDay();
                int i = num(0, 9);
                due("sung " + year + " " + day + " " + hour + " " + i, book.sung(year, day, hour, i),
                    plain.sung(year, day, hour, i));
            }
            default -> {
                int year = aYear();
                int from = aDay();
                int to = random.nextInt(4) == 0 ? aDay() : from + random.nextInt(20);
                due("times " + year + " " + from + " " + to + " " + psalm, book.times(year, from, to, psalm),
                    plain.times(year, from, to, psalm));
            }
        }
    }

    private void monksAndTones(boolean asks) {
        if (random.nextBoolean()) {
            monks(asks);
        } else {
            tones(asks);
        }
    }

    private void monks(boolean asks) {
        int monk = random.nextBoolean() ? num(0, 23) : random.nextInt(6);
        int year = aYear();
        int role = num(0, 2);
        int from = aDay();
        switch (asks ? 2 + random.nextInt(4) : random.nextInt(3)) {
            case 0 -> {
                int can = num(0, 7);
                due("monk", book.monk(can), plain.monk(can));
            }
            case 1 -> {
                int to = random.nextInt(4) == 0 ? aDay() : from + random.nextInt(20);
                due("absence " + monk, book.absence(monk, year, from, to), plain.absence(monk, year, from, to));
            }
            case 2 -> {
                int many = num(1, 60);
                due("roster " + year + " " + from + " " + many, book.roster(year, from, many), plain.roster(year, from, many));
            }
            case 3 -> due("had " + monk + " " + role, book.had(monk, role), plain.had(monk, role));
            default -> {
                int k = num(0, 30);
                for (int i = -1; i < 7; i++) {
                    due("turn " + k + " " + role + " " + i, book.turn(k, role, i), plain.turn(k, role, i));
                }
            }
        }
    }

    private void tones(boolean asks) {
        int tone = random.nextBoolean() ? num(0, 8) : 0;
        int verse = random.nextBoolean() ? num(0, 19) : random.nextInt(4);
        int note = num(0, 30);
        int cadence = num(0, 1);
        int kind = asks && random.nextInt(8) != 0 ? 6 : random.nextInt(12);
        switch (kind) {
            case 0 -> due("tenor", book.tenor(tone, note), plain.tenor(tone, note));
            case 1 -> {
                int what = num(0, 2);
                due("note " + what, book.note(tone, what, note), plain.note(tone, what, note));
            }
            case 2 -> {
                int which = num(0, 1);
                int extra = num(0, 30);
                int behind = num(0, 30);
                due("accent", book.accent(tone, cadence, which, note, extra, behind),
                    plain.accent(tone, cadence, which, note, extra, behind));
            }
            case 3 -> {
                int many = num(1, 2);
                due("accents", book.accents(tone, cadence, many), plain.accents(tone, cadence, many));
            }
            case 4 -> {
                if (random.nextInt(3) == 0) {
                    due("part " + verse, book.part(verse), plain.part(verse));
                }
            }
            case 6 -> {
                for (int i = -1; i < 20; i++) {
                    due("sing " + verse + " " + tone + " " + i, book.sing(verse, tone, i), plain.sing(verse, tone, i));
                }
            }
            default -> {
                boolean stressed = random.nextInt(3) == 0;
                due("syllable " + verse, book.syllable(verse, stressed), plain.syllable(verse, stressed));
            }
        }
    }

    private void due(String call, int got, int want) {
        calls++;
        Check.due(run + ": " + call, got, want);
    }
}
