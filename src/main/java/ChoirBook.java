/**
 * An abbey's choir: its feasts and their days, its psalms, its tones and its turns.
 * The promises that each public method keeps are numbered in ../shared/DOC.md.
 */
public final class ChoirBook {
    public static final int NONE = -1;

    private static final int SUNDAY = 0;
    private static final int DAYS_OF_WEEK = 7;
    private static final int FIRST_YEAR = 1900;
    private static final int LAST_YEAR = 2199;
    private static final int MOST_DAYS = 366;

    private static final int LEAST_FROM_EASTER = -120;
    private static final int MOST_FROM_EASTER = 250;
    private static final int MOST_COLOUR = 7;
    private static final int MOST_RANK = 9;
    private static final int MOST_SEASONS = 10;
    private static final int MOST_FEASTS = 60;

    private static final int WAY_LET_GO = 0;
    private static final int WAY_IN_PART = 1;
    private static final int WAY_MOVED = 2;

    private static final int KIND_WEEKDAY = 0;
    private static final int KIND_SUNDAY = 1;
    private static final int KIND_FEAST = 2;
    private static final int KIND_OCTAVE = 3;
    private static final int KIND_VIGIL = 4;

    private static final int COMMEMORATED = -2;
    private static final int LET_GO = -3;
    private static final int LOST = -4;
    private static final int NOT_IN_YEAR = -5;

    private static final int NO_PLACE = -2;
    private static final int OPEN = -2;

    private static final int MOST_NOTE = 30;
    private static final int MANY_TONES = 9;
    private static final int MANY_VERSES = 20;

    private final Seasons seasons;
    private final Feasts feasts;
    private final Almanac almanac;
    private final Psalter psalter;
    private final Tone[] tones;
    private final Verse[] texts;
    private final Choir choir;
    private final Roster turns;

    public ChoirBook() {
        seasons = new Seasons();
        feasts = new Feasts();
        almanac = new Almanac(seasons, feasts);
        psalter = new Psalter();
        tones = new Tone[MANY_TONES];
        for (int i = 0; i < tones.length; i++) {
            tones[i] = new Tone();
        }
        texts = new Verse[MANY_VERSES];
        for (int i = 0; i < texts.length; i++) {
            texts[i] = new Verse();
        }
        choir = new Choir();
        turns = new Roster();
    }

    // ---- days

    public int year(int year, int what) {
        if (!Days.isYear(year)) {
            return NONE;
        }
        switch (what) {
            case 0:
                return Days.lengthOf(year);
            case 1:
                return Days.firstWeekday(year);
            case 2:
                return Days.easter(year);
            default:
                return NONE;
        }
    }

    public int day(int year, int month, int day) {
        return Days.isYear(year) ? Days.dayOf(year, month, day) : NONE;
    }

    // ---- rubrics

    public int season(int from, int to, int sundays, int weekdays, int colour) {
        return forgetIfTold(seasons.tellFromEaster(from, to, sundays, weekdays, colour));
    }

    public int dated(int from, int to, int sundays, int weekdays, int colour) {
        return forgetIfTold(seasons.tellByDates(from, to, sundays, weekdays, colour));
    }

    public int feast(int sort, int a, int rank, int colour, int way) {
        return forgetIfTold(feasts.tell(sort, a, rank, colour, way));
    }

    public int around(int feast, int octave, boolean vigil) {
        return forgetIfTold(feasts.surround(feast, octave, vigil));
    }

    public int raise(int feast, int rank, int way) {
        return forgetIfTold(feasts.change(feast, rank, way));
    }

    public int office(int year, int day, int what) {
        return almanac.openAt(year, day) ? almanac.officeOn(day, what) : NONE;
    }

    public int also(int year, int day, int i, int what) {
        return almanac.openAt(year, day) ? almanac.commemoration(day, i, what) : NONE;
    }

    public int kept(int year, int feast) {
        return feasts.isTold(feast) && almanac.open(year) ? almanac.fateOf(feast) : NONE;
    }

    public int tally(int year, int what, int v) {
        if (!almanac.open(year)) {
            return NONE;
        }
        switch (what) {
            case 0:
                return almanac.daysWith(Almanac.OF_KIND, v);
            case 1:
                return almanac.daysWith(Almanac.OF_RANK, v);
            case 2:
                return almanac.daysWith(Almanac.OF_COLOUR, v);
            case 3:
                return v == 0 ? almanac.movedFeasts() : NONE;
            case 4:
                return v == 0 ? almanac.feastsOfFate(LOST) : NONE;
            case 5:
                return v == 0 ? almanac.feastsOfFate(COMMEMORATED) : NONE;
            case 6:
                return v == 0 ? almanac.feastsOfFate(LET_GO) : NONE;
            default:
                return NONE;
        }
    }

    // ---- psalms

    public int verses(int psalm, int many) {
        return psalter.setVerses(psalm, many);
    }

    public int hours(int many) {
        return psalter.setHours(many);
    }

    public int fix(int psalm, int hour) {
        return psalter.setFixed(psalm, hour);
    }

    public int festal(int hour, int psalm) {
        return psalter.addFestal(hour, psalm);
    }

    public int limit(int rank) {
        return psalter.setFeastRank(rank);
    }

    public int dealt(int weekday, int hour, int what) {
        if (what == 3) {
            return psalter.leastLimit();
        }
        if (!within(weekday, 0, DAYS_OF_WEEK - 1) || !psalter.hasHour(hour)) {
            return NONE;
        }
        switch (what) {
            case 0:
                return psalter.firstDealt(weekday, hour);
            case 1:
                return psalter.manyDealt(weekday, hour);
            case 2:
                return psalter.versesDealt(weekday, hour);
            default:
                return NONE;
        }
    }

    public int sung(int year, int day, int hour, int i) {
        if (!psalter.hasHour(hour) || !almanac.openAt(year, day)) {
            return NONE;
        }
        return psalter.psalmSung(almanac.weekdayOf(day), hour, almanac.rankOn(day), i);
    }

    public int times(int year, int from, int to, int psalm) {
        if (!psalter.hasPsalm(psalm) || !almanac.openAt(year, from) || !almanac.openAt(year, to) || from > to) {
            return NONE;
        }
        int sum = 0;
        for (int day = from; day <= to; day++) {
            sum += psalter.timesSung(almanac.weekdayOf(day), almanac.rankOn(day), psalm);
        }
        return sum;
    }

    // ---- tones

    public int tenor(int tone, int note) {
        Tone told = toneOf(tone);
        return told == null ? NONE : told.setTenor(note);
    }

    public int note(int tone, int what, int note) {
        Tone told = toneOf(tone);
        return told == null ? NONE : told.addNote(what, note);
    }

    public int accent(int tone, int cadence, int which, int on, int extra, int behind) {
        Cadence told = cadenceOf(tone, cadence);
        return told == null ? NONE : told.setAccent(which, on, extra, behind);
    }

    public int accents(int tone, int cadence, int many) {
        Cadence told = cadenceOf(tone, cadence);
        return told == null ? NONE : told.setMany(many);
    }

    public int syllable(int verse, boolean stressed) {
        Verse text = verseOf(verse);
        return text == null ? NONE : text.addSyllable(stressed);
    }

    public int part(int verse) {
        Verse text = verseOf(verse);
        return text == null ? NONE : text.cutHere();
    }

    public int sing(int verse, int tone, int i) {
        Verse text = verseOf(verse);
        Tone told = toneOf(tone);
        if (text == null || told == null || !text.isSungAt(i)) {
            return NONE;
        }
        return told.noteAt(text, i);
    }

    // ---- monks

    public int monk(int can) {
        return choir.join(can);
    }

    public int absence(int monk, int year, int from, int to) {
        return choir.sendAway(monk, year, from, to);
    }

    public int roster(int year, int from, int days) {
        if (!within(days, 1, Roster.MOST_DAYS_TOLD) || !almanac.openAt(year, from)
                || !almanac.openAt(year, from + days - 1)) {
            return NONE;
        }
        return turns.make(choir, almanac, from, days);
    }

    public int turn(int k, int role, int i) {
        return turns.monkAt(k, role, i);
    }

    public int had(int monk, int role) {
        return choir.hasMonk(monk) ? turns.timesOf(monk, role) : NONE;
    }

    private int forgetIfTold(int answer) {
        if (answer != NONE) {
            almanac.forget();
        }
        return answer;
    }

    private Tone toneOf(int tone) {
        return tone >= 0 && tone < tones.length ? tones[tone] : null;
    }

    private Cadence cadenceOf(int tone, int cadence) {
        Tone told = toneOf(tone);
        return told == null ? null : told.cadenceAt(cadence);
    }

    private Verse verseOf(int verse) {
        return verse >= 0 && verse < texts.length ? texts[verse] : null;
    }

    private static boolean within(int v, int low, int high) {
        return v >= low && v <= high;
    }

    private static int at(int[] row, int i) {
        return i >= 0 && i < row.length ? row[i] : NONE;
    }

    private static void put(int[] row, int i, int v) {
        if (i >= 0 && i < row.length) {
            row[i] = v;
        }
    }

    private static final class Days {
        // It has a 29 February, so it has every date that there ever is.
        private static final int LEAP_YEAR = 2000;
        private static final int[] MONTH_LENGTHS = {31, 28, 31, 30, 31, 30, 31, 31, 30, 31, 30, 31};
        private static final int[] MONTH_STARTS = {0, 31, 59, 90, 120, 151, 181, 212, 243, 273, 304, 334};

        static boolean isYear(int year) {
            return within(year, FIRST_YEAR, LAST_YEAR);
        }

        static boolean isLeap(int year) {
            return year % 4 == 0 && (year % 100 != 0 || year % 400 == 0);
        }

        static int lengthOf(int year) {
            return isLeap(year) ? 366 : 365;
        }

        static int firstWeekday(int year) {
            int past = year - 1;
            // 365 days are one more than whole weeks, so each year behind moves the weekday by one.
            return (year + past / 4 - past / 100 + past / 400) % DAYS_OF_WEEK;
        }

        static int easter(int year) {
            int a = year % 19;
            int b = year / 100;
            int c = year % 100;
            int h = (19 * a + b - b / 4 - (b - (b + 8) / 25 + 1) / 3 + 15) % 30;
            int l = (32 + 2 * (b % 4) + 2 * (c / 4) - h - c % 4) % 7;
            int m = h + l - 7 * ((a + 11 * h + 22 * l) / 451) + 114;
            return firstOfMonth(year, m / 31) + m % 31;
        }

        static int lengthOfMonth(int year, int month) {
            return month == 2 && isLeap(year) ? 29 : at(MONTH_LENGTHS, month - 1);
        }

        static int firstOfMonth(int year, int month) {
            return at(MONTH_STARTS, month - 1) + (month > 2 && isLeap(year) ? 1 : 0);
        }

        static int dayOf(int year, int month, int day) {
            if (!within(month, 1, 12) || !within(day, 1, lengthOfMonth(year, month))) {
                return NONE;
            }
            return firstOfMonth(year, month) + day - 1;
        }

        static boolean isEverDate(int monthAndDay) {
            return dayOf(LEAP_YEAR, monthAndDay / 100, monthAndDay % 100) != NONE;
        }

        static boolean isRoughDate(int monthAndDay) {
            return within(monthAndDay / 100, 1, 12) && within(monthAndDay % 100, 1, 31);
        }

        static int roughDay(int year, int monthAndDay) {
            int month = monthAndDay / 100;
            int day = Math.min(monthAndDay % 100, lengthOfMonth(year, month));
            return firstOfMonth(year, month) + day - 1;
        }

        static int nthWeekday(int year, int month, int weekday, int n) {
            int first = firstOfMonth(year, month);
            int ahead = (weekday - (firstWeekday(year) + first) % DAYS_OF_WEEK + DAYS_OF_WEEK) % DAYS_OF_WEEK;
            return dayOf(year, month, 1 + ahead + DAYS_OF_WEEK * (n - 1));
        }
    }

    private static final class Seasons {
        private static final int PLAIN_SUNDAYS = 3;

        private final boolean[] byDates = new boolean[MOST_SEASONS];
        private final int[] starts = new int[MOST_SEASONS];
        private final int[] ends = new int[MOST_SEASONS];
        private final int[] sundayRanks = new int[MOST_SEASONS];
        private final int[] weekdayRanks = new int[MOST_SEASONS];
        private final int[] colours = new int[MOST_SEASONS];
        private int many;

        int tellFromEaster(int from, int to, int sundays, int weekdays, int colour) {
            if (!within(from, LEAST_FROM_EASTER, MOST_FROM_EASTER) || !within(to, from, MOST_FROM_EASTER)) {
                return NONE;
            }
            return add(from, to, sundays, weekdays, colour, false);
        }

        int tellByDates(int from, int to, int sundays, int weekdays, int colour) {
            if (!Days.isRoughDate(from) || !Days.isRoughDate(to) || from > to) {
                return NONE;
            }
            return add(from, to, sundays, weekdays, colour, true);
        }

        private int add(int from, int to, int sundays, int weekdays, int colour, boolean dates) {
            if (many < 0 || many >= byDates.length || !within(sundays, 1, MOST_RANK)
                    || !within(weekdays, 0, MOST_RANK - 1) || !within(colour, 0, MOST_COLOUR)) {
                return NONE;
            }
            byDates[many] = dates;
            put(starts, many, from);
            put(ends, many, to);
            put(sundayRanks, many, sundays);
            put(weekdayRanks, many, weekdays);
            put(colours, many, colour);
            many++;
            return many;
        }

        int count() {
            return many;
        }

        int firstDay(int season, int year) {
            return isByDates(season) ? Days.roughDay(year, at(starts, season)) : Days.easter(year) + at(starts, season);
        }

        int lastDay(int season, int year) {
            return isByDates(season) ? Days.roughDay(year, at(ends, season)) : Days.easter(year) + at(ends, season);
        }

        private boolean isByDates(int season) {
            return season >= 0 && season < byDates.length && byDates[season];
        }

        int rankOf(int season, int weekday) {
            if (season == NONE) {
                return weekday == SUNDAY ? PLAIN_SUNDAYS : 0;
            }
            return weekday == SUNDAY ? at(sundayRanks, season) : at(weekdayRanks, season);
        }

        int colourOf(int season) {
            return season == NONE ? 0 : at(colours, season);
        }
    }

    private static final class Feasts {
        private static final int BY_DATE = 0;
        private static final int FROM_EASTER = 1;
        private static final int BY_WEEKDAY = 2;
        private static final int MOST_OCTAVE = 8;

        private final int[] sorts = new int[MOST_FEASTS];
        private final int[] whens = new int[MOST_FEASTS];
        private final int[] ranks = new int[MOST_FEASTS];
        private final int[] colours = new int[MOST_FEASTS];
        private final int[] ways = new int[MOST_FEASTS];
        private final int[] octaves = new int[MOST_FEASTS];
        private final boolean[] vigils = new boolean[MOST_FEASTS];
        private int many;

        int tell(int sort, int a, int rank, int colour, int way) {
            if (many >= MOST_FEASTS || !isWhen(sort, a) || !isRankAndWay(rank, way)
                    || !within(colour, 0, MOST_COLOUR)) {
                return NONE;
            }
            put(sorts, many, sort);
            put(whens, many, a);
            put(ranks, many, rank);
            put(colours, many, colour);
            put(ways, many, way);
            many++;
            return many - 1;
        }

        private static boolean isWhen(int sort, int a) {
            switch (sort) {
                case BY_DATE:
                    return Days.isEverDate(a);
                case FROM_EASTER:
                    return within(a, LEAST_FROM_EASTER, MOST_FROM_EASTER);
                case BY_WEEKDAY:
                    return within(a / 100, 1, 12) && within(a / 10 % 10, 0, DAYS_OF_WEEK - 1) && within(a % 10, 1, 5);
                default:
                    return false;
            }
        }

        private static boolean isRankAndWay(int rank, int way) {
            return within(rank, 1, MOST_RANK) && within(way, WAY_LET_GO, WAY_MOVED);
        }

        int surround(int feast, int octave, boolean vigil) {
            if (!isTold(feast) || feast >= vigils.length || !within(octave, 0, MOST_OCTAVE)) {
                return NONE;
            }
            put(octaves, feast, octave);
            vigils[feast] = vigil;
            return 0;
        }

        int change(int feast, int rank, int way) {
            if (!isTold(feast) || !isRankAndWay(rank, way)) {
                return NONE;
            }
            put(ranks, feast, rank);
            put(ways, feast, way);
            return 0;
        }

        boolean isTold(int feast) {
            return feast >= 0 && feast < many;
        }

        int count() {
            return many;
        }

        int rankOf(int feast) {
            return at(ranks, feast);
        }

        int colourOf(int feast) {
            return at(colours, feast);
        }

        int wayOf(int feast) {
            return at(ways, feast);
        }

        int octaveOf(int feast) {
            return at(octaves, feast);
        }

        boolean hasVigil(int feast) {
            return feast >= 0 && feast < vigils.length && vigils[feast];
        }

        int dayIn(int feast, int year) {
            int when = at(whens, feast);
            switch (at(sorts, feast)) {
                case BY_DATE:
                    return Days.dayOf(year, when / 100, when % 100);
                case FROM_EASTER:
                    int day = Days.easter(year) + when;
                    return within(day, 0, Days.lengthOf(year) - 1) ? day : NONE;
                case BY_WEEKDAY:
                    return Days.nthWeekday(year, when / 100, when / 10 % 10, when % 10);
                default:
                    return NONE;
            }
        }
    }

    /**
     * It keeps the offices of the year that was asked for last, as most calls ask for the same one.
     * A candidate is one number, greater where it stands ahead in the order, so that a plain
     * comparison orders candidates and no object is needed for them.
     */
    private static final class Almanac {
        private static final int OF_KIND = 0;
        private static final int OF_FEAST = 1;
        private static final int OF_RANK = 2;
        private static final int OF_COLOUR = 3;
        private static final int OF_COMMEMORATED = 4;
        private static final int OF_OWN_DAY = 5;
        private static final int FEAST_STEP = 64;
        private static final int RANK_STEP = 5 * FEAST_STEP;
        private static final int OCTAVE_DAYS = 7;
        private static final int VIGIL_RANK = 2;
        private static final int MOST_COMMEMORATED = 3;
        private static final int MOST_DAYS_MOVED = 60;

        private final Seasons seasons;
        private final Feasts feasts;
        private final int[] seasonOn = new int[MOST_DAYS];
        private final int[] offices = new int[MOST_DAYS];
        private final int[] others = new int[MOST_DAYS * MOST_COMMEMORATED];
        private final int[] ownDays = new int[MOST_FEASTS];
        private final int[] fates = new int[MOST_FEASTS];
        private int madeFor = NONE;
        private int days;
        private int firstWeekday;

        Almanac(Seasons toldSeasons, Feasts toldFeasts) {
            seasons = toldSeasons;
            feasts = toldFeasts;
        }

        void forget() {
            madeFor = NONE;
        }

        boolean open(int year) {
            if (!Days.isYear(year)) {
                return false;
            }
            if (madeFor != year) {
                build(year);
            }
            return true;
        }

        boolean openAt(int year, int day) {
            if (!Days.isYear(year) || !within(day, 0, Days.lengthOf(year) - 1)) {
                return false;
            }
            if (madeFor != year) {
                build(year);
            }
            return true;
        }

        int yearMadeFor() {
            return madeFor;
        }

        int weekdayOf(int day) {
            return (firstWeekday + day) % DAYS_OF_WEEK;
        }

        int officeOn(int day, int what) {
            int office = at(offices, day);
            switch (what) {
                case OF_COLOUR:
                    return colourIn(office, day);
                case OF_COMMEMORATED:
                    return commemoratedOn(day);
                case OF_OWN_DAY:
                    return kindIn(office) == KIND_FEAST ? at(ownDays, feastIn(office)) : day;
                default:
                    return partOf(office, what);
            }
        }

        int rankOn(int day) {
            return rankIn(at(offices, day));
        }

        private int colourIn(int office, int day) {
            int feast = feastIn(office);
            return feast == NONE ? seasons.colourOf(at(seasonOn, day)) : feasts.colourOf(feast);
        }

        private int commemoratedOn(int day) {
            int count = 0;
            for (int i = 0; i < MOST_COMMEMORATED; i++) {
                if (at(others, day * MOST_COMMEMORATED + i) != NONE) {
                    count++;
                }
            }
            return count;
        }

        int commemoration(int day, int i, int what) {
            int candidate = within(i, 0, MOST_COMMEMORATED - 1) ? at(others, day * MOST_COMMEMORATED + i) : NONE;
            return candidate == NONE ? NONE : partOf(candidate, what);
        }

        int fateOf(int feast) {
            return at(fates, feast);
        }

        int daysWith(int what, int v) {
            int count = 0;
            for (int day = 0; day < days; day++) {
                if (officeOn(day, what) == v) {
                    count++;
                }
            }
            return count;
        }

        int feastsOfFate(int fate) {
            int count = 0;
            for (int feast = 0; feast < feasts.count(); feast++) {
                if (at(fates, feast) == fate) {
                    count++;
                }
            }
            return count;
        }

        int movedFeasts() {
            int count = 0;
            for (int feast = 0; feast < feasts.count(); feast++) {
                int fate = at(fates, feast);
                if (fate >= 0 && fate != at(ownDays, feast)) {
                    count++;
                }
            }
            return count;
        }

        private void build(int year) {
            madeFor = year;
            days = Days.lengthOf(year);
            firstWeekday = Days.firstWeekday(year);
            layOutSeasons(year);
            for (int feast = 0; feast < feasts.count(); feast++) {
                put(ownDays, feast, feasts.dayIn(feast, year));
            }
            for (int i = 0; i < offices.length; i++) {
                offices[i] = NONE;
            }
            for (int i = 0; i < others.length; i++) {
                others[i] = NONE;
            }
            considerAll(true);
            moveFeasts();
            considerAll(false);
            settleFates();
        }

        private void layOutSeasons(int year) {
            for (int i = 0; i < seasonOn.length; i++) {
                seasonOn[i] = NONE;
            }
            for (int season = 0; season < seasons.count(); season++) {
                int last = Math.min(seasons.lastDay(season, year), days - 1);
                for (int day = Math.max(seasons.firstDay(season, year), 0); day <= last; day++) {
                    put(seasonOn, day, season);
                }
            }
        }

        // The candidates are gone through twice: the offices must all stand before it is known
        // which of the others are commemorated.
        private void considerAll(boolean choosing) {
            for (int day = 0; day < days; day++) {
                int weekday = weekdayOf(day);
                int rank = seasons.rankOf(at(seasonOn, day), weekday);
                int kind = weekday == SUNDAY ? KIND_SUNDAY : KIND_WEEKDAY;
                int way = rank == 0 ? WAY_LET_GO : WAY_IN_PART;
                consider(day, candidate(rank, kind, 0), way, choosing);
            }
            for (int feast = 0; feast < feasts.count(); feast++) {
                int own = at(ownDays, feast);
                if (own != NONE) {
                    considerFeast(feast, own, choosing);
                }
            }
        }

        private void considerFeast(int feast, int own, boolean choosing) {
            consider(own, feastCandidate(feast), feasts.wayOf(feast), choosing);
            int octave = feasts.octaveOf(feast);
            for (int i = 1; i <= OCTAVE_DAYS && octave > 0; i++) {
                int rank = i == OCTAVE_DAYS ? octave + 1 : octave;
                consider(own + i, candidate(rank, KIND_OCTAVE, feast), WAY_IN_PART, choosing);
            }
            if (feasts.hasVigil(feast) && own > 0) {
                int ahead = weekdayOf(own - 1) == SUNDAY ? 2 : 1;
                consider(own - ahead, candidate(VIGIL_RANK, KIND_VIGIL, feast), WAY_LET_GO, choosing);
            }
        }

        private void consider(int day, int candidate, int way, boolean choosing) {
            if (!within(day, 0, days - 1)) {
                return;
            }
            if (choosing) {
                put(offices, day, Math.max(at(offices, day), candidate));
            } else if (way == WAY_IN_PART && candidate != at(offices, day)) {
                commemorate(day, candidate);
            }
        }

        private void commemorate(int day, int candidate) {
            int carried = candidate;
            for (int i = day * MOST_COMMEMORATED; i < (day + 1) * MOST_COMMEMORATED; i++) {
                int there = at(others, i);
                if (carried > there) {
                    put(others, i, carried);
                    carried = there;
                }
            }
        }

        private void moveFeasts() {
            for (int feast = 0; feast < feasts.count(); feast++) {
                int own = at(ownDays, feast);
                boolean stays = own != NONE && at(offices, own) == feastCandidate(feast);
                // Nothing is due to be moved that stays, is not there, or is of another way.
                put(fates, feast, stays ? own : NONE);
            }
            for (int n = 0; n < feasts.count(); n++) {
                int feast = nextToMove();
                if (feast == NONE) {
                    return;
                }
                put(fates, feast, placeFor(feast));
            }
        }

        private boolean isToMove(int feast) {
            return feasts.wayOf(feast) == WAY_MOVED && at(ownDays, feast) != NONE && at(fates, feast) == NONE;
        }

        private int nextToMove() {
            int best = NONE;
            for (int feast = 0; feast < feasts.count(); feast++) {
                if (isToMove(feast) && (best == NONE || isMovedBefore(feast, best))) {
                    best = feast;
                }
            }
            return best;
        }

        private boolean isMovedBefore(int feast, int lower) {
            if (feasts.rankOf(feast) != feasts.rankOf(lower)) {
                return feasts.rankOf(feast) > feasts.rankOf(lower);
            }
            return at(ownDays, feast) < at(ownDays, lower);
        }

        private int placeFor(int feast) {
            int own = at(ownDays, feast);
            int last = Math.min(own + MOST_DAYS_MOVED, days - 1);
            for (int day = own + 1; day <= last; day++) {
                if (givesWay(at(offices, day), feasts.rankOf(feast))) {
                    put(offices, day, feastCandidate(feast));
                    return day;
                }
            }
            return LOST;
        }

        private boolean givesWay(int office, int rank) {
            boolean holds = kindIn(office) == KIND_FEAST && feasts.wayOf(feastIn(office)) == WAY_MOVED;
            return !holds && rankIn(office) < rank;
        }

        private void settleFates() {
            for (int feast = 0; feast < feasts.count(); feast++) {
                if (feasts.wayOf(feast) != WAY_MOVED || at(ownDays, feast) == NONE) {
                    put(fates, feast, fateOnOwnDay(feast));
                }
            }
        }

        private int fateOnOwnDay(int feast) {
            int own = at(ownDays, feast);
            if (own == NONE) {
                return NOT_IN_YEAR;
            }
            int candidate = feastCandidate(feast);
            if (at(offices, own) == candidate) {
                return own;
            }
            for (int i = 0; i < MOST_COMMEMORATED; i++) {
                if (at(others, own * MOST_COMMEMORATED + i) == candidate) {
                    return COMMEMORATED;
                }
            }
            return LET_GO;
        }

        private int feastCandidate(int feast) {
            return candidate(feasts.rankOf(feast), KIND_FEAST, feast);
        }

        private static int candidate(int rank, int kind, int feast) {
            return rank * RANK_STEP + placeOf(kind) * FEAST_STEP + FEAST_STEP - 1 - feast;
        }

        private static int placeOf(int kind) {
            switch (kind) {
                case KIND_FEAST:
                    return 4;
                case KIND_OCTAVE:
                    return 3;
                case KIND_SUNDAY:
                    return 2;
                case KIND_VIGIL:
                    return 1;
                default:
                    return 0;
            }
        }

        private static int kindIn(int candidate) {
            switch (candidate / FEAST_STEP % 5) {
                case 4:
                    return KIND_FEAST;
                case 3:
                    return KIND_OCTAVE;
                case 2:
                    return KIND_SUNDAY;
                case 1:
                    return KIND_VIGIL;
                default:
                    return KIND_WEEKDAY;
            }
        }

        private static int partOf(int candidate, int what) {
            switch (what) {
                case OF_KIND:
                    return kindIn(candidate);
                case OF_FEAST:
                    return feastIn(candidate);
                case OF_RANK:
                    return rankIn(candidate);
                default:
                    return NONE;
            }
        }

        private static int rankIn(int candidate) {
            return candidate / RANK_STEP;
        }

        private static int feastIn(int candidate) {
            int kind = kindIn(candidate);
            if (kind == KIND_WEEKDAY || kind == KIND_SUNDAY) {
                return NONE;
            }
            return FEAST_STEP - 1 - candidate % FEAST_STEP;
        }
    }

    private static final class Psalter {
        private static final int PSALMS = 150;
        private static final int MOST_VERSES = 200;
        private static final int MOST_HOURS = 8;
        private static final int MOST_FESTAL = 6;
        private static final int MOST_FEAST_RANK = 10;
        // Far more halvings than the greatest sum of verses takes.
        private static final int MOST_HALVINGS = 40;

        private final int[] verseCounts = new int[PSALMS + 1];
        private final int[] fixedAt = new int[PSALMS + 1];
        private final int[] festals = new int[MOST_HOURS * MOST_FESTAL];
        private final int[] festalCounts = new int[MOST_HOURS];
        private final int[] row = new int[PSALMS];
        private final int[] starts = new int[DAYS_OF_WEEK * MOST_HOURS + 1];
        private final int[] slots = new int[PSALMS + 1];
        private int rowLength;
        private int manyHours = 7;
        private int feastRank = 7;
        private int limitNow;
        private boolean isDealt;

        Psalter() {
            for (int psalm = 0; psalm < verseCounts.length; psalm++) {
                verseCounts[psalm] = 10;
            }
            for (int psalm = 0; psalm < fixedAt.length; psalm++) {
                fixedAt[psalm] = NONE;
            }
        }

        boolean hasPsalm(int psalm) {
            return within(psalm, 1, PSALMS);
        }

        boolean hasHour(int hour) {
            return hour >= 0 && hour < manyHours;
        }

        int setVerses(int psalm, int many) {
            if (!hasPsalm(psalm) || !within(many, 1, MOST_VERSES)) {
                return NONE;
            }
            int before = at(verseCounts, psalm);
            put(verseCounts, psalm, many);
            isDealt = false;
            return before;
        }

        int setHours(int many) {
            if (!within(many, 1, MOST_HOURS) || isUsedFrom(many)) {
                return NONE;
            }
            int before = manyHours;
            manyHours = many;
            isDealt = false;
            return before;
        }

        private boolean isUsedFrom(int hour) {
            for (int psalm = 1; psalm <= PSALMS; psalm++) {
                if (at(fixedAt, psalm) >= hour) {
                    return true;
                }
            }
            for (int h = hour; h < MOST_HOURS; h++) {
                if (at(festalCounts, h) > 0) {
                    return true;
                }
            }
            return false;
        }

        int setFixed(int psalm, int hour) {
            if (!hasPsalm(psalm) || (hour != NONE && !hasHour(hour))) {
                return NO_PLACE;
            }
            int before = at(fixedAt, psalm);
            put(fixedAt, psalm, hour);
            isDealt = false;
            return before;
        }

        int addFestal(int hour, int psalm) {
            if (!hasHour(hour) || !hasPsalm(psalm) || at(festalCounts, hour) >= MOST_FESTAL) {
                return NONE;
            }
            int count = at(festalCounts, hour);
            put(festals, hour * MOST_FESTAL + count, psalm);
            put(festalCounts, hour, count + 1);
            return count + 1;
        }

        int setFeastRank(int rank) {
            if (!within(rank, 1, MOST_FEAST_RANK)) {
                return NONE;
            }
            int before = feastRank;
            feastRank = rank;
            return before;
        }

        int leastLimit() {
            deal();
            return limitNow;
        }

        int firstDealt(int weekday, int hour) {
            deal();
            return dealtPsalm(weekday, hour, 0);
        }

        int manyDealt(int weekday, int hour) {
            deal();
            return countDealt(weekday, hour);
        }

        int versesDealt(int weekday, int hour) {
            deal();
            int sum = 0;
            int count = countDealt(weekday, hour);
            for (int i = 0; i < count; i++) {
                sum += at(verseCounts, dealtPsalm(weekday, hour, i));
            }
            return sum;
        }

        int psalmSung(int weekday, int hour, int rank, int i) {
            deal();
            if (i < 0) {
                return NONE;
            }
            boolean festive = isFestive(hour, rank);
            int ahead = festive ? at(festalCounts, hour) : countDealt(weekday, hour);
            if (i < ahead) {
                return festive ? at(festals, hour * MOST_FESTAL + i) : dealtPsalm(weekday, hour, i);
            }
            return fixedPsalm(hour, i - ahead);
        }

        int timesSung(int weekday, int rank, int psalm) {
            deal();
            int sum = at(fixedAt, psalm) == NONE ? 0 : 1;
            for (int hour = 0; hour < manyHours; hour++) {
                if (isFestive(hour, rank)) {
                    sum += countFestal(hour, psalm);
                } else if (at(slots, psalm) == weekday * manyHours + hour) {
                    sum++;
                }
            }
            return sum;
        }

        private boolean isFestive(int hour, int rank) {
            return rank >= feastRank && at(festalCounts, hour) > 0;
        }

        private int countFestal(int hour, int psalm) {
            int sum = 0;
            int count = at(festalCounts, hour);
            for (int i = 0; i < count; i++) {
                if (at(festals, hour * MOST_FESTAL + i) == psalm) {
                    sum++;
                }
            }
            return sum;
        }

        private int fixedPsalm(int hour, int n) {
            int left = n;
            for (int psalm = 1; psalm <= PSALMS; psalm++) {
                if (at(fixedAt, psalm) == hour) {
                    if (left == 0) {
                        return psalm;
                    }
                    left--;
                }
            }
            return NONE;
        }

        private int countDealt(int weekday, int hour) {
            int slot = weekday * manyHours + hour;
            return at(starts, slot + 1) - at(starts, slot);
        }

        private int dealtPsalm(int weekday, int hour, int i) {
            return i < countDealt(weekday, hour) ? at(row, at(starts, weekday * manyHours + hour) + i) : NONE;
        }

        private void deal() {
            if (isDealt) {
                return;
            }
            isDealt = true;
            lineUp();
            findLimit();
            int next = 0;
            for (int slot = 0; slot < DAYS_OF_WEEK * manyHours; slot++) {
                int end = endOfHour(next, limitNow);
                // Where an hour ends the next one starts; the first one starts at 0 for ever.
                put(starts, slot + 1, end);
                markSlot(slot, next, end);
                next = end;
            }
        }

        private void markSlot(int slot, int first, int end) {
            for (int i = first; i < end; i++) {
                put(slots, at(row, i), slot);
            }
        }

        private void lineUp() {
            rowLength = 0;
            for (int psalm = 1; psalm <= PSALMS; psalm++) {
                put(slots, psalm, NONE);
                if (at(fixedAt, psalm) == NONE) {
                    put(row, rowLength, psalm);
                    rowLength++;
                }
            }
        }

        private void findLimit() {
            int low = 0;
            int high = 0;
            for (int i = 0; i < rowLength; i++) {
                int count = at(verseCounts, at(row, i));
                low = Math.max(low, count);
                high += count;
            }
            for (int n = 0; n < MOST_HALVINGS && low < high; n++) {
                int middle = low + (high - low) / 2;
                if (isEnough(middle)) {
                    high = middle;
                } else {
                    low = middle + 1;
                }
            }
            limitNow = low;
        }

        private boolean isEnough(int limit) {
            int next = 0;
            for (int slot = 0; slot < DAYS_OF_WEEK * manyHours; slot++) {
                next = endOfHour(next, limit);
            }
            return next >= rowLength;
        }

        private int endOfHour(int first, int limit) {
            int sum = 0;
            for (int i = first; i < rowLength; i++) {
                sum += at(verseCounts, at(row, i));
                if (sum > limit) {
                    return i;
                }
            }
            return rowLength;
        }
    }

    private static final class Cadence {
        private static final int MOST_BEFORE = 3;
        private static final int NOTES_OF_ACCENT = 3;

        private final int[] before = new int[MOST_BEFORE];
        private final int[] accentNotes = new int[2 * NOTES_OF_ACCENT];
        private int manyBefore;
        private int manyAccents = 1;

        int addBefore(int note) {
            if (manyBefore >= MOST_BEFORE) {
                return NONE;
            }
            put(before, manyBefore, note);
            manyBefore++;
            return manyBefore;
        }

        int setAccent(int which, int on, int extra, int behind) {
            if (!within(which, 0, 1) || !Tone.isNote(on) || !Tone.isNote(extra) || !Tone.isNote(behind)) {
                return NONE;
            }
            put(accentNotes, which * NOTES_OF_ACCENT, on);
            put(accentNotes, which * NOTES_OF_ACCENT + 1, extra);
            put(accentNotes, which * NOTES_OF_ACCENT + 2, behind);
            return 0;
        }

        int setMany(int many) {
            if (!within(many, 1, 2)) {
                return NONE;
            }
            manyAccents = many;
            return 0;
        }

        boolean hasTwoAccents() {
            return manyAccents == 2;
        }

        int noteFrom(int which, int past, int manyBehind) {
            if (past == 0) {
                return at(accentNotes, which * NOTES_OF_ACCENT);
            }
            boolean isExtra = past == 1 && manyBehind == 2;
            return at(accentNotes, which * NOTES_OF_ACCENT + (isExtra ? 1 : 2));
        }

        int noteAhead(int ahead) {
            return within(ahead, 1, manyBefore) ? at(before, manyBefore - ahead) : NONE;
        }
    }

    private static final class Tone {
        private static final int MOST_INTONATION = 4;

        private final int[] intonation = new int[MOST_INTONATION];
        private final Cadence middle = new Cadence();
        private final Cadence end = new Cadence();
        private int manyIntonation;
        private int tenorNote;

        static boolean isNote(int note) {
            return within(note, 0, MOST_NOTE);
        }

        Cadence cadenceAt(int cadence) {
            switch (cadence) {
                case 0:
                    return middle;
                case 1:
                    return end;
                default:
                    return null;
            }
        }

        int setTenor(int note) {
            if (!isNote(note)) {
                return NONE;
            }
            tenorNote = note;
            return 0;
        }

        int addNote(int what, int note) {
            if (!isNote(note)) {
                return NONE;
            }
            switch (what) {
                case 0:
                    return addIntonation(note);
                case 1:
                    return middle.addBefore(note);
                case 2:
                    return end.addBefore(note);
                default:
                    return NONE;
            }
        }

        private int addIntonation(int note) {
            if (manyIntonation >= MOST_INTONATION) {
                return NONE;
            }
            put(intonation, manyIntonation, note);
            manyIntonation++;
            return manyIntonation;
        }

        int noteAt(Verse text, int i) {
            int start = text.startOfHalf(i);
            int stop = text.endOfHalf(i);
            Cadence cadence = text.isFirstHalf(i) ? middle : end;
            int last = text.lastAccent(start, stop);
            int first = cadence.hasTwoAccents() ? text.firstAccent(start, last) : NONE;
            if (i >= last) {
                return cadence.noteFrom(1, i - last, stop - 1 - last);
            }
            if (first != NONE && i >= first) {
                return cadence.noteFrom(0, i - first, last - 1 - first);
            }
            int ahead = cadence.noteAhead((first == NONE ? last : first) - i);
            if (ahead != NONE) {
                return ahead;
            }
            return start == 0 && i < manyIntonation ? at(intonation, i) : tenorNote;
        }
    }

    private static final class Verse {
        private static final int MOST_SYLLABLES = 60;

        private final boolean[] stresses = new boolean[MOST_SYLLABLES];
        private int length;
        private int cut;

        int addSyllable(boolean stressed) {
            if (length < 0 || length >= stresses.length) {
                return NONE;
            }
            stresses[length] = stressed;
            length++;
            return length;
        }

        int cutHere() {
            if (length == 0 || cut > 0) {
                return NONE;
            }
            cut = length;
            return cut;
        }

        boolean isSungAt(int i) {
            return i >= 0 && i < length && cut < length;
        }

        boolean isFirstHalf(int i) {
            return i < cut;
        }

        int startOfHalf(int i) {
            return isFirstHalf(i) ? 0 : cut;
        }

        int endOfHalf(int i) {
            return isFirstHalf(i) ? cut : length;
        }

        int lastAccent(int start, int stop) {
            // The last but two is it in any other case: stressed, or for want of one that is.
            return isStressedFrom(start, stop - 2) ? stop - 2 : Math.max(start, stop - 3);
        }

        int firstAccent(int start, int last) {
            if (isStressedFrom(start, last - 2)) {
                return last - 2;
            }
            if (isStressedFrom(start, last - 3)) {
                return last - 3;
            }
            return last - 2 >= start ? last - 2 : NONE;
        }

        private boolean isStressedFrom(int start, int i) {
            return i >= start && i >= 0 && i < stresses.length && stresses[i];
        }
    }

    private static final class Choir {
        private static final int MOST_MONKS = 24;
        private static final int MOST_ABSENCES = 60;
        private static final int ALL_ROLES = 7;

        private final int[] abilities = new int[MOST_MONKS];
        private final int[] awayMonks = new int[MOST_ABSENCES];
        private final int[] awayYears = new int[MOST_ABSENCES];
        private final int[] awayFrom = new int[MOST_ABSENCES];
        private final int[] awayTo = new int[MOST_ABSENCES];
        private int many;
        private int manyAway;

        int join(int can) {
            if (many >= MOST_MONKS || !within(can, 0, ALL_ROLES)) {
                return NONE;
            }
            put(abilities, many, can);
            many++;
            return many - 1;
        }

        int sendAway(int monk, int year, int from, int to) {
            if (manyAway >= MOST_ABSENCES || !hasMonk(monk) || !Days.isYear(year)) {
                return NONE;
            }
            if (from < 0 || !within(to, from, Days.lengthOf(year) - 1)) {
                return NONE;
            }
            put(awayMonks, manyAway, monk);
            put(awayYears, manyAway, year);
            put(awayFrom, manyAway, from);
            put(awayTo, manyAway, to);
            manyAway++;
            return manyAway;
        }

        boolean hasMonk(int monk) {
            return monk >= 0 && monk < many;
        }

        int count() {
            return many;
        }

        boolean canDo(int monk, int role) {
            return hasMonk(monk) && (at(abilities, monk) & 1 << role) != 0;
        }

        int awayBits(int year, int day) {
            int bits = 0;
            for (int i = 0; i < manyAway; i++) {
                if (at(awayYears, i) == year && within(day, at(awayFrom, i), at(awayTo, i))) {
                    bits |= 1 << at(awayMonks, i);
                }
            }
            return bits;
        }
    }

    /** It keeps the ranks that it was made by: rubrics told later must not change what it answers. */
    private static final class Roster {
        private static final int MOST_DAYS_TOLD = 60;
        private static final int ROLES = 3;
        private static final int OFFICIANT = 0;
        private static final int CANTOR = 1;
        private static final int READER = 2;
        private static final int MOST_CANTORS = 4;
        private static final int MOST_READERS = 6;
        private static final int SEATS_OF_DAY = 1 + MOST_CANTORS + MOST_READERS;

        private final int[] seats = new int[MOST_DAYS_TOLD * SEATS_OF_DAY];
        private final int[] ranks = new int[MOST_DAYS_TOLD];
        private final int[] timesHad = new int[Choir.MOST_MONKS * ROLES];
        private final int[] latestDays = new int[Choir.MOST_MONKS * ROLES];
        private int manyDays;

        int make(Choir choir, Almanac almanac, int from, int days) {
            manyDays = Math.min(days, MOST_DAYS_TOLD);
            for (int i = 0; i < timesHad.length; i++) {
                timesHad[i] = 0;
            }
            for (int i = 0; i < latestDays.length; i++) {
                latestDays[i] = NONE;
            }
            int open = 0;
            for (int k = 0; k < manyDays; k++) {
                put(ranks, k, almanac.rankOn(from + k));
                open += fillDay(choir, k, choir.awayBits(almanac.yearMadeFor(), from + k));
            }
            return open;
        }

        private int fillDay(Choir choir, int k, int away) {
            int barred = away;
            int open = 0;
            for (int role = 0; role < ROLES; role++) {
                int many = manySeats(role, at(ranks, k));
                for (int i = 0; i < many; i++) {
                    int monk = nextMonk(choir, role, barred);
                    put(seats, seatOf(k, role, i), monk);
                    if (monk == OPEN) {
                        open++;
                    } else {
                        barred |= 1 << monk;
                        enter(monk, role, k);
                    }
                }
            }
            return open;
        }

        private void enter(int monk, int role, int k) {
            int place = monk * ROLES + role;
            put(timesHad, place, at(timesHad, place) + 1);
            put(latestDays, place, k);
        }

        private int nextMonk(Choir choir, int role, int barred) {
            int best = OPEN;
            for (int monk = 0; monk < choir.count(); monk++) {
                boolean isFree = (barred & 1 << monk) == 0 && choir.canDo(monk, role);
                if (isFree && (best == OPEN || isAhead(monk, best, role))) {
                    best = monk;
                }
            }
            return best;
        }

        private boolean isAhead(int monk, int older, int role) {
            int mine = monk * ROLES + role;
            int others = older * ROLES + role;
            if (at(timesHad, mine) != at(timesHad, others)) {
                return at(timesHad, mine) < at(timesHad, others);
            }
            return at(latestDays, mine) < at(latestDays, others);
        }

        int monkAt(int k, int role, int i) {
            if (k < 0 || k >= manyDays || i < 0 || i >= manySeats(role, at(ranks, k))) {
                return NONE;
            }
            return at(seats, seatOf(k, role, i));
        }

        int timesOf(int monk, int role) {
            if (manyDays == 0 || !within(role, 0, ROLES - 1)) {
                return NONE;
            }
            return at(timesHad, monk * ROLES + role);
        }

        private static int seatOf(int k, int role, int i) {
            int ahead = role == OFFICIANT ? 0 : role == CANTOR ? 1 : 1 + MOST_CANTORS;
            return k * SEATS_OF_DAY + ahead + i;
        }

        private static int manySeats(int role, int rank) {
            switch (role) {
                case OFFICIANT:
                    return 1;
                case CANTOR:
                    return rank >= 7 ? MOST_CANTORS : rank >= 4 ? 2 : 1;
                case READER:
                    return rank >= 6 ? MOST_READERS : rank >= 3 ? 3 : 1;
                default:
                    return 0;
            }
        }
    }
}
