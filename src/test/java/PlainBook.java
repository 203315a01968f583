import java.time.DayOfWeek;
import java.time.LocalDate;
import java.time.YearMonth;
import java.time.temporal.TemporalAdjusters;
import java.util.ArrayList;
import java.util.Arrays;
import java.util.Comparator;
import java.util.List;
import java.util.stream.IntStream;

/** The document once more, as plainly as can be and by other means, to compare ChoirBook with. */
final class PlainBook {
    private static final List<Integer> KIND_ORDER = List.of(2, 3, 1, 4, 0);

    private record Season(boolean dates, int from, int to, int sundays, int weekdays, int colour) {
    }

    private static final class Feast {
        int number;
        int sort;
        int a;
        int rank;
        int colour;
        int way;
        int octave;
        boolean vigil;
    }

    private record Candidate(int kind, int feast, int rank, int colour, int way) {
        static final Comparator<Candidate> ORDER = Comparator.<Candidate>comparingInt(c -> -c.rank)
            .thenComparingInt(c -> KIND_ORDER.indexOf(c.kind)).thenComparingInt(c -> c.feast);
    }

    private static final class YearBook {
        int year;
        List<List<Candidate>> candidates = new ArrayList<>();
        List<Candidate> offices = new ArrayList<>();
        List<List<Candidate>> commemorated = new ArrayList<>();
        int[] placed;
    }

    private record Absence(int monk, int year, int from, int to) {
    }

    private final List<Season> seasons = new ArrayList<>();
    private final List<Feast> feasts = new ArrayList<>();
    private YearBook latest;
    private final int[] verses = new int[151];
    private final int[] fixed = new int[151];
    private final List<List<Integer>> festals = new ArrayList<>();
    private int hours = 7;
    private int feastRank = 7;
    private final int[] tenors = new int[9];
    private final List<List<List<Integer>>> notes = new ArrayList<>();
    private final int[][][][] accents = new int[9][2][2][3];
    private final int[][] many = new int[9][2];
    private final List<List<Boolean>> syllables = new ArrayList<>();
    private final int[] parts = new int[20];
    private final List<Integer> monks = new ArrayList<>();
    private final List<Absence> absences = new ArrayList<>();
    private List<List<List<Integer>>> roster;

    PlainBook() {
        Arrays.fill(verses, 10);
        Arrays.fill(fixed, -1);
        for (int i = 0; i < 8; i++) {
            festals.add(new ArrayList<>());
        }
        for (int i = 0; i < 9; i++) {
            notes.add(List.of(new ArrayList<>(), new ArrayList<>(), new ArrayList<>()));
            Arrays.fill(many[i], 1);
        }
        for (int i = 0; i < 20; i++) {
            syllables.add(new ArrayList<>());
        }
    }

    private static boolean in(int v, int low, int high) {
        return low <= v && v <= high;
    }

    private static boolean isYear(int year) {
        return in(year, 1900, 2199);
    }

    private static int length(int year) {
        return YearMonth.of(year, 12).isLeapYear() ? 366 : 365;
    }

    private static boolean isDay(int year, int day) {
        return isYear(year) && in(day, 0, length(year) - 1);
    }

    private static LocalDate date(int year, int day) {
        return LocalDate.ofYearDay(year, day + 1);
    }

    private static boolean isSunday(int year, int day) {
        return date(year, day).getDayOfWeek() == DayOfWeek.SUNDAY;
    }

    private static int dayOf(LocalDate date) {
        return date.getDayOfYear() - 1;
    }

    /** Gauss's rule with Lichtenberg's correction, and not the one that the document tells. */
    private static int easter(int year) {
        int k = year / 100;
        int m = 15 + (3 * k + 3) / 4 - (8 * k + 13) / 25;
        int s = 2 - (3 * k + 3) / 4;
        int a = year % 19;
        int d = (19 * a + m) % 30;
        int r = (d + a / 11) / 29;
        int og = 21 + d - r;
        int sz = 7 - (year + year / 4 + s) % 7;
        int oe = 7 - (og - sz) % 7;
        return dayOf(LocalDate.of(year, 3, 1).plusDays(og + oe - 1));
    }

    int year(int year, int what) {
        if (!isYear(year)) {
            return -1;
        }
        return switch (what) {
            case 0 -> length(year);
            case 1 -> date(year, 0).getDayOfWeek().getValue() % 7;
            case 2 -> easter(year);
            default -> -1;
        };
    }

    int day(int year, int month, int day) {
        if (!isYear(year) || !in(month, 1, 12) || !in(day, 1, YearMonth.of(year, month).lengthOfMonth())) {
            return -1;
        }
        return dayOf(LocalDate.of(year, month, day));
    }

    int season(int from, int to, int sundays, int weekdays, int colour) {
        boolean told = in(from, -120, 250) && in(to, -120, 250);
        return addSeason(told, new Season(false, from, to, sundays, weekdays, colour));
    }

    int dated(int from, int to, int sundays, int weekdays, int colour) {
        boolean told = in(from / 100, 1, 12) && in(from % 100, 1, 31) && in(to / 100, 1, 12) && in(to % 100, 1, 31);
        return addSeason(told, new Season(true, from, to, sundays, weekdays, colour));
    }

    private int addSeason(boolean told, Season s) {
        if (!told || s.from > s.to || !in(s.sundays, 1, 9) || !in(s.weekdays, 0, 8) || !in(s.colour, 0, 7)
                || seasons.size() == 10) {
            return -1;
        }
        latest = null;
        seasons.add(s);
        return seasons.size();
    }

    private static int roughDay(int year, int told) {
        YearMonth month = YearMonth.of(year, told / 100);
        return dayOf(month.atDay(Math.min(told % 100, month.lengthOfMonth())));
    }

    private Season seasonOf(int year, int day) {
        Season found = new Season(false, 0, 0, 3, 0, 0);
        for (Season s : seasons) {
            int from = s.dates ? roughDay(year, s.from) : easter(year) + s.from;
            int to = s.dates ? roughDay(year, s.to) : easter(year) + s.to;
            if (in(day, from, to)) {
                found = s;
            }
        }
        return found;
    }

    int feast(int sort, int a, int rank, int colour, int way) {
        boolean told = switch (sort) {
            case 0 -> day(2004, a / 100, a % 100) >= 0;
            case 1 -> in(a, -120, 250);
            case 2 -> in(a / 100, 1, 12) && in(a % 100 / 10, 0, 6) && in(a % 10, 1, 5);
            default -> false;
        };
        if (!told || !in(rank, 1, 9) || !in(colour, 0, 7) || !in(way, 0, 2) || feasts.size() == 60) {
            return -1;
        }
        Feast f = new Feast();
        f.number = feasts.size();
        f.sort = sort;
        f.a = a;
        f.rank = rank;
        f.colour = colour;
        f.way = way;
        feasts.add(f);
        latest = null;
        return f.number;
    }

    int around(int feast, int octave, boolean vigil) {
        if (!in(feast, 0, feasts.size() - 1) || !in(octave, 0, 8)) {
            return -1;
        }
        feasts.get(feast).octave = octave;
        feasts.get(feast).vigil = vigil;
        latest = null;
        return 0;
    }

    int raise(int feast, int rank, int way) {
        if (!in(feast, 0, feasts.size() - 1) || !in(rank, 1, 9) || !in(way, 0, 2)) {
            return -1;
        }
        feasts.get(feast).rank = rank;
        feasts.get(feast).way = way;
        latest = null;
        return 0;
    }

    private static int ownDay(Feast f, int year) {
        if (f.sort == 0) {
            YearMonth month = YearMonth.of(year, f.a / 100);
            return f.a % 100 > month.lengthOfMonth() ? -1 : dayOf(month.atDay(f.a % 100));
        }
        if (f.sort == 1) {
            int day = easter(year) + f.a;
            return isDay(year, day) ? day : -1;
        }
        DayOfWeek weekday = DayOfWeek.of((f.a / 10 % 10 + 6) % 7 + 1);
        LocalDate first = LocalDate.of(year, f.a / 100, 1);
        LocalDate d = first.with(TemporalAdjusters.dayOfWeekInMonth(f.a % 10, weekday));
        return d.getMonthValue() == f.a / 100 ? dayOf(d) : -1;
    }

    private List<Candidate> candidatesOf(int year, int day) {
        List<Candidate> list = new ArrayList<>();
        Season s = seasonOf(year, day);
        if (isSunday(year, day)) {
            list.add(new Candidate(1, -1, s.sundays, s.colour, 1));
        } else {
            list.add(new Candidate(0, -1, s.weekdays, s.colour, s.weekdays == 0 ? 0 : 1));
        }
        for (Feast f : feasts) {
            int own = ownDay(f, year);
            if (own == -1) {
                continue;
            }
            if (own == day) {
                list.add(new Candidate(2, f.number, f.rank, f.colour, f.way));
            }
            int since = day - own;
            if (f.octave > 0 && in(since, 1, 7)) {
                list.add(new Candidate(3, f.number, since == 7 ? f.octave + 1 : f.octave, f.colour, 1));
            }
            boolean isNext = own == day + 1 && !isSunday(year, day);
            boolean isPastSunday = own == day + 2 && isSunday(year, day + 1);
            if (f.vigil && (isNext || isPastSunday)) {
                list.add(new Candidate(4, f.number, 2, f.colour, 0));
            }
        }
        list.sort(Candidate.ORDER);
        return list;
    }

    private YearBook book(int year) {
        if (latest != null && latest.year == year) {
            return latest;
        }
        YearBook b = new YearBook();
        b.year = year;
        for (int day = 0; day < length(year); day++) {
            b.candidates.add(candidatesOf(year, day));
            b.offices.add(b.candidates.get(day).get(0));
        }
        b.placed = new int[feasts.size()];
        Arrays.fill(b.placed, -1);
        moveAll(b);
        for (int day = 0; day < length(year); day++) {
            Candidate office = b.offices.get(day);
            b.commemorated.add(b.candidates.get(day).stream()
                .filter(c -> c != office && c.way == 1).limit(3).toList());
        }
        latest = b;
        return b;
    }

    private void moveAll(YearBook b) {
        List<Feast> moved = new ArrayList<>();
        for (Feast f : feasts) {
            int own = ownDay(f, b.year);
            if (f.way == 2 && own != -1) {
                Candidate office = b.offices.get(own);
                if (office.kind != 2 || office.feast != f.number) {
                    moved.add(f);
                }
            }
        }
        moved.sort(Comparator.<Feast>comparingInt(f -> -f.rank).thenComparingInt(f -> ownDay(f, b.year))
            .thenComparingInt(f -> f.number));
        for (Feast f : moved) {
            int own = ownDay(f, b.year);
            b.placed[f.number] = IntStream.rangeClosed(own + 1, own + 60).filter(d -> d < length(b.year))
                .filter(d -> b.offices.get(d).rank < f.rank)
                .filter(d -> b.offices.get(d).kind != 2 || b.offices.get(d).way != 2).findFirst().orElse(-4);
            if (b.placed[f.number] >= 0) {
                b.offices.set(b.placed[f.number], new Candidate(2, f.number, f.rank, f.colour, 2));
            }
        }
    }

    int office(int year, int day, int what) {
        if (!isDay(year, day)) {
            return -1;
        }
        Candidate c = book(year).offices.get(day);
        return switch (what) {
            case 0 -> c.kind;
            case 1 -> c.feast;
            case 2 -> c.rank;
            case 3 -> c.colour;
            case 4 -> book(year).commemorated.get(day).size();
            case 5 -> c.kind == 2 ? ownDay(feasts.get(c.feast), year) : day;
            default -> -1;
        };
    }

    int also(int year, int day, int i, int what) {
        if (!isDay(year, day) || !in(i, 0, book(year).commemorated.get(day).size() - 1)) {
            return -1;
        }
        Candidate c = book(year).commemorated.get(day).get(i);
        return switch (what) {
            case 0 -> c.kind;
            case 1 -> c.feast;
            case 2 -> c.rank;
            default -> -1;
        };
    }

    int kept(int year, int feast) {
        if (!isYear(year) || !in(feast, 0, feasts.size() - 1)) {
            return -1;
        }
        int own = ownDay(feasts.get(feast), year);
        if (own == -1) {
            return -5;
        }
        YearBook b = book(year);
        for (int day = 0; day < length(year); day++) {
            if (b.offices.get(day).kind == 2 && b.offices.get(day).feast == feast) {
                return day;
            }
        }
        if (b.placed[feast] == -4) {
            return -4;
        }
        return b.commemorated.get(own).stream().anyMatch(c -> c.kind == 2 && c.feast == feast) ? -2 : -3;
    }

    int tally(int year, int what, int v) {
        if (!isYear(year) || !in(what, 0, 6) || what > 2 && v != 0) {
            return -1;
        }
        YearBook b = book(year);
        return (int) switch (what) {
            case 0 -> b.offices.stream().filter(c -> c.kind == v).count();
            case 1 -> b.offices.stream().filter(c -> c.rank == v).count();
            case 2 -> b.offices.stream().filter(c -> c.colour == v).count();
            case 3 -> feasts.stream().filter(f -> b.placed[f.number] >= 0).count();
            default -> feasts.stream().filter(f -> kept(year, f.number) == new int[] {-4, -2, -3}[what - 4]).count();
        };
    }

    int verses(int psalm, int many) {
        if (!in(psalm, 1, 150) || !in(many, 1, 200)) {
            return -1;
        }
        int before = verses[psalm];
        verses[psalm] = many;
        return before;
    }

    int hours(int many) {
        if (!in(many, 1, 8) || Arrays.stream(fixed).anyMatch(h -> h >= many)
                || festals.subList(many, 8).stream().anyMatch(l -> !l.isEmpty())) {
            return -1;
        }
        int before = hours;
        hours = many;
        return before;
    }

    int fix(int psalm, int hour) {
        if (!in(psalm, 1, 150) || !in(hour, -1, hours - 1)) {
            return -2;
        }
        int before = fixed[psalm];
        fixed[psalm] = hour;
        return before;
    }

    int festal(int hour, int psalm) {
        if (!in(hour, 0, hours - 1) || !in(psalm, 1, 150) || festals.get(hour).size() == 6) {
            return -1;
        }
        festals.get(hour).add(psalm);
        return festals.get(hour).size();
    }

    int limit(int rank) {
        if (!in(rank, 1, 10)) {
            return -1;
        }
        int before = feastRank;
        feastRank = rank;
        return before;
    }

    /** The hours of the week by a limit, or null if they do not take all. */
    private List<List<Integer>> dealtBy(int limit) {
        List<List<Integer>> week = new ArrayList<>();
        List<Integer> row = new ArrayList<>();
        int sum = 0;
        for (int psalm = 1; psalm <= 150; psalm++) {
            if (fixed[psalm] != -1) {
                continue;
            }
            if (verses[psalm] > limit) {
                return null;
            }
            if (sum + verses[psalm] > limit) {
                week.add(row);
                row = new ArrayList<>();
                sum = 0;
            }
            row.add(psalm);
            sum += verses[psalm];
        }
        week.add(row);
        while (week.size() < 7 * hours) {
            week.add(List.of());
        }
        return week.size() > 7 * hours ? null : week;
    }

    private int leastLimit() {
        int limit = 0;
        while (dealtBy(limit) == null) {
            limit++;
        }
        return limit;
    }

    int dealt(int weekday, int hour, int what) {
        if (what == 3) {
            return leastLimit();
        }
        if (!in(weekday, 0, 6) || !in(hour, 0, hours - 1)) {
            return -1;
        }
        List<Integer> row = dealtBy(leastLimit()).get(weekday * hours + hour);
        return switch (what) {
            case 0 -> row.isEmpty() ? -1 : row.get(0);
            case 1 -> row.size();
            case 2 -> row.stream().mapToInt(p -> verses[p]).sum();
            default -> -1;
        };
    }

    private List<Integer> sungAt(int year, int day, int hour, List<List<Integer>> week) {
        List<Integer> all = new ArrayList<>();
        if (office(year, day, 2) >= feastRank && !festals.get(hour).isEmpty()) {
            all.addAll(festals.get(hour));
        } else {
            all.addAll(week.get(date(year, day).getDayOfWeek().getValue() % 7 * hours + hour));
        }
        IntStream.rangeClosed(1, 150).filter(p -> fixed[p] == hour).forEach(all::add);
        return all;
    }

    int sung(int year, int day, int hour, int i) {
        if (!isDay(year, day) || !in(hour, 0, hours - 1)) {
            return -1;
        }
        List<Integer> all = sungAt(year, day, hour, dealtBy(leastLimit()));
        return in(i, 0, all.size() - 1) ? all.get(i) : -1;
    }

    int times(int year, int from, int to, int psalm) {
        if (!isDay(year, from) || !isDay(year, to) || from > to || !in(psalm, 1, 150)) {
            return -1;
        }
        List<List<Integer>> week = dealtBy(leastLimit());
        int sum = 0;
        for (int day = from; day <= to; day++) {
            for (int hour = 0; hour < hours; hour++) {
                sum += (int) sungAt(year, day, hour, week).stream().filter(p -> p == psalm).count();
            }
        }
        return sum;
    }

    private static boolean areNotes(int... told) {
        return Arrays.stream(told).allMatch(n -> in(n, 0, 30));
    }

    int tenor(int tone, int note) {
        if (!in(tone, 0, 8) || !areNotes(note)) {
            return -1;
        }
        tenors[tone] = note;
        return 0;
    }

    int note(int tone, int what, int note) {
        if (!in(tone, 0, 8) || !in(what, 0, 2) || !areNotes(note) || notes.get(tone).get(what).size() == (what == 0 ? 4 : 3)) {
            return -1;
        }
        notes.get(tone).get(what).add(note);
        return notes.get(tone).get(what).size();
    }

    int accent(int tone, int cadence, int which, int on, int extra, int behind) {
        if (!in(tone, 0, 8) || !in(cadence, 0, 1) || !in(which, 0, 1) || !areNotes(on, extra, behind)) {
            return -1;
        }
        accents[tone][cadence][which] = new int[] {on, extra, behind};
        return 0;
    }

    int accents(int tone, int cadence, int told) {
        if (!in(tone, 0, 8) || !in(cadence, 0, 1) || !in(told, 1, 2)) {
            return -1;
        }
        many[tone][cadence] = told;
        return 0;
    }

    int syllable(int verse, boolean stressed) {
        if (!in(verse, 0, 19) || syllables.get(verse).size() == 60) {
            return -1;
        }
        syllables.get(verse).add(stressed);
        return syllables.get(verse).size();
    }

    int part(int verse) {
        if (!in(verse, 0, 19) || syllables.get(verse).isEmpty() || parts[verse] > 0) {
            return -1;
        }
        parts[verse] = syllables.get(verse).size();
        return parts[verse];
    }

    int sing(int verse, int tone, int i) {
        if (!in(verse, 0, 19) || !in(tone, 0, 8)) {
            return -1;
        }
        List<Boolean> all = syllables.get(verse);
        if (!in(i, 0, all.size() - 1) || parts[verse] == all.size()) {
            return -1;
        }
        List<Integer> sung = new ArrayList<>();
        if (parts[verse] > 0) {
            sung.addAll(half(all.subList(0, parts[verse]), tone, 0, true));
        }
        sung.addAll(half(all.subList(parts[verse], all.size()), tone, 1, parts[verse] == 0));
        return sung.get(i);
    }

    /** Written from the least to the strongest: what is written later stands. */
    private List<Integer> half(List<Boolean> stresses, int tone, int cadence, boolean isFirst) {
        int n = stresses.size();
        int[] sung = new int[n];
        Arrays.fill(sung, tenors[tone]);
        List<Integer> intonation = notes.get(tone).get(0);
        for (int i = 0; isFirst && i < intonation.size() && i < n; i++) {
            sung[i] = intonation.get(i);
        }
        int last = n == 1 ? 0 : n == 2 ? 0 : n - 3;
        for (int i = 0; i < n; i++) {
            if (stresses.get(i) && in(n - 1 - i, 1, 2)) {
                last = i;
            }
        }
        int first = -1;
        if (many[tone][cadence] == 2 && last >= 2) {
            first = last - 2;
            for (int i = 0; i < n; i++) {
                if (stresses.get(i) && in(last - i, 2, 3)) {
                    first = i;
                }
            }
        }
        List<Integer> before = notes.get(tone).get(1 + cadence);
        int head = first >= 0 ? first : last;
        for (int back = 1; back <= before.size() && head - back >= 0; back++) {
            sung[head - back] = before.get(before.size() - back);
        }
        if (first >= 0) {
            write(sung, first, last, accents[tone][cadence][0]);
        }
        write(sung, last, n, accents[tone][cadence][1]);
        return Arrays.stream(sung).boxed().toList();
    }

    private static void write(int[] sung, int accent, int end, int[] told) {
        sung[accent] = told[0];
        if (end - accent == 2) {
            sung[accent + 1] = told[2];
        }
        if (end - accent == 3) {
            sung[accent + 1] = told[1];
            sung[accent + 2] = told[2];
        }
    }

    int monk(int can) {
        if (!in(can, 0, 7) || monks.size() == 24) {
            return -1;
        }
        monks.add(can);
        return monks.size() - 1;
    }

    int absence(int monk, int year, int from, int to) {
        if (!in(monk, 0, monks.size() - 1) || !isDay(year, from) || !isDay(year, to) || from > to || absences.size() == 60) {
            return -1;
        }
        absences.add(new Absence(monk, year, from, to));
        return absences.size();
    }

    int roster(int year, int from, int days) {
        if (!in(days, 1, 60) || !isDay(year, from) || !isDay(year, (int) Math.min((long) from + days - 1, 9999))) {
            return -1;
        }
        roster = new ArrayList<>();
        int open = 0;
        for (int day = from; day < from + days; day++) {
            int rank = office(year, day, 2);
            int[] seats = {1, rank < 4 ? 1 : rank < 7 ? 2 : 4, rank < 3 ? 1 : rank < 6 ? 3 : 6};
            List<List<Integer>> today = List.of(new ArrayList<>(), new ArrayList<>(), new ArrayList<>());
            roster.add(today);
            for (int role = 0; role < 3; role++) {
                for (int i = 0; i < seats[role]; i++) {
                    int monk = choose(year, day, role, today);
                    today.get(role).add(monk);
                    open += monk == -2 ? 1 : 0;
                }
            }
        }
        return open;
    }

    private int choose(int year, int day, int role, List<List<Integer>> today) {
        return IntStream.range(0, monks.size()).boxed()
            .filter(m -> (monks.get(m) >> role) % 2 == 1)
            .filter(m -> today.stream().noneMatch(l -> l.contains(m)))
            .filter(m -> absences.stream().noneMatch(a -> a.monk == m && a.year == year && in(day, a.from, a.to)))
            .min(Comparator.<Integer>comparingInt(m -> count(m, role)).thenComparingInt(m -> latestDay(m, role))
                .thenComparingInt(m -> m))
            .orElse(-2);
    }

    private int count(int monk, int role) {
        return (int) roster.stream().filter(d -> d.get(role).contains(monk)).count();
    }

    private int latestDay(int monk, int role) {
        return IntStream.range(0, roster.size()).filter(k -> roster.get(k).get(role).contains(monk)).max().orElse(-1);
    }

    int turn(int k, int role, int i) {
        if (roster == null || !in(k, 0, roster.size() - 1) || !in(role, 0, 2)
                || !in(i, 0, roster.get(k).get(role).size() - 1)) {
            return -1;
        }
        return roster.get(k).get(role).get(i);
    }

    int had(int monk, int role) {
        return roster == null || !in(monk, 0, monks.size() - 1) || !in(role, 0, 2) ? -1 : count(monk, role);
    }
}
