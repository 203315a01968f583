/** The boundaries of Terms I, of promises 1 to 3 and of an object's calls: a test for each sentence. */
public final class EdgesOfDaysTest {
    private static final int[] NO_YEARS = {1899, 2200, 0, 1, 99, -1, -2024, Integer.MIN_VALUE, Integer.MAX_VALUE};

    public static void main(String[] args) {
        usedForAtMost512Calls();
        nothingIsTold();
        noneIsMinusOne();
        refusedIsNone();
        yearsFrom1900To2199();
        noYearsAreRefusedByEachCall();
        gregorianYears();
        daysOfAYearFrom0On();
        daysAheadOfTheFirstAndBehindTheLast();
        firstOfJanuary1900WasAMonday();
        easterEarliestAndLatest();
        easterOfEachYear();
        weekdaysFrom0To6();
        yearWhat0To2();
        dayOfAMonthThatThereIsNot();
        Check.end("EdgesOfDaysTest");
    }

    private static void usedForAtMost512Calls() {
        Check.sentence("What it is", "An object is used for at most 512 calls after it has been made");
        ChoirBook told = new ChoirBook();
        int before = 10;
        for (int n = 1; n <= 512; n++) {
            int many = 1 + n % 200;
            Check.due("call " + n + ", verses", told.verses(1, many), before);
            before = many;
        }
        ChoirBook full = new ChoirBook();
        int calls = fill(full);
        for (int n = calls + 1; n < 512; n++) {
            Check.due("call " + n + ", kept", full.kept(1900 + n % 300, 59), 0);
        }
        Check.due("call 512, roster", full.roster(2199, 305, 60), 0);
    }

    /** All that an object holds: how many calls it took. */
    private static int fill(ChoirBook book) {
        int calls = 0;
        for (int i = 0; i < 10; i++, calls++) {
            Check.due("season " + i, book.season(-120, 250, 9, 8, i % 8), i + 1);
        }
        for (int i = 0; i < 60; i++, calls++) {
            // The last one is the greatest, and all the others give way to it.
            Check.due("feast " + i, book.feast(0, 101, i == 59 ? 9 : 8, 0, i == 59 ? 2 : 1), i);
        }
        for (int i = 0; i < 60; i++, calls++) {
            Check.due("around " + i, book.around(i, 8, true), 0);
        }
        for (int i = 0; i < 24; i++, calls++) {
            Check.due("monk " + i, book.monk(7), i);
        }
        for (int i = 0; i < 60; i++, calls++) {
            Check.due("absence " + i, book.absence(i % 24, 2198, 0, 364), i + 1);
        }
        return calls;
    }

    private static void nothingIsTold() {
        Check.sentence("Promise 1", "Nothing is told.");
        ChoirBook book = new ChoirBook();
        Check.refused("no feast", book.kept(2024, 0));
        Check.refused("no feast to go around", book.around(0, 0, false));
        Check.refused("no feast to raise", book.raise(0, 1, 0));
        Check.due("no season on a weekday", book.office(2024, 0, 2), 0);
        Check.due("no season on a Sunday", book.office(2024, 6, 2), 3);
        for (int day = 0; day <= 6; day++) {
            Check.due("nothing commemorated on day " + day, book.office(2024, day, 4), 0);
            Check.refused("nothing commemorated on day " + day, book.also(2024, day, 0, 0));
        }
        Check.due("no psalm is fixed", book.times(2024, 0, 6, 1), 1);
        Check.refused("no syllable", book.sing(0, 0, 0));
        Check.refused("no syllable to part", book.part(0));
        Check.refused("no monk to be absent", book.absence(0, 2024, 0, 0));
        Check.refused("no roster", book.turn(0, 0, 0));
        Check.refused("no roster", book.had(0, 0));
        Check.due("all roles open", book.roster(2024, 0, 1), 3);
        Check.due("the first season", book.season(0, 0, 1, 0, 0), 1);
        Check.due("the first feast", book.feast(1, 0, 1, 0, 0), 0);
        Check.due("the first festal psalm", book.festal(0, 1), 1);
        Check.due("the first note", book.note(0, 0, 0), 1);
        Check.due("the first syllable", book.syllable(0, false), 1);
        Check.due("the first monk", book.monk(0), 0);
        Check.due("the first absence", book.absence(0, 2024, 0, 0), 1);
        Check.due("another object has nothing of it", new ChoirBook().monk(0), 0);
    }

    private static void noneIsMinusOne() {
        Check.sentence("Terms", "The constants: `NONE = -1`: There is none.");
        Check.due("NONE", ChoirBook.NONE, -1);
    }

    private static void refusedIsNone() {
        Check.sentence("Terms", "REFUSED: NONE.");
        ChoirBook book = new ChoirBook();
        Check.refused("year", book.year(1899, 0));
        Check.refused("day", book.day(2024, 0, 1));
        Check.refused("season", book.season(1, 0, 1, 0, 0));
        Check.refused("dated", book.dated(102, 101, 1, 0, 0));
        Check.refused("feast", book.feast(3, 101, 1, 0, 0));
        Check.refused("around", book.around(0, 0, true));
        Check.refused("raise", book.raise(0, 1, 1));
        Check.refused("office", book.office(2024, -1, 0));
        Check.refused("also", book.also(2024, -1, 0, 0));
        Check.refused("kept", book.kept(2024, 0));
        Check.refused("tally", book.tally(2024, 7, 0));
        Check.refused("verses", book.verses(0, 1));
        Check.refused("hours", book.hours(0));
        Check.refused("festal", book.festal(7, 1));
        Check.refused("limit", book.limit(0));
        Check.refused("dealt", book.dealt(7, 0, 0));
        Check.refused("sung", book.sung(2024, 0, 7, 0));
        Check.refused("times", book.times(2024, 0, 0, 0));
        Check.refused("tenor", book.tenor(9, 0));
        Check.refused("note", book.note(0, 3, 0));
        Check.refused("accent", book.accent(0, 2, 0, 0, 0, 0));
        Check.refused("accents", book.accents(0, 0, 0));
        Check.refused("syllable", book.syllable(20, true));
        Check.refused("part", book.part(0));
        Check.refused("sing", book.sing(0, 0, 0));
        Check.refused("monk", book.monk(8));
        Check.refused("absence", book.absence(0, 2024, 0, 0));
        Check.refused("roster", book.roster(2024, 0, 0));
        Check.refused("turn", book.turn(0, 0, 0));
        Check.refused("had", book.had(0, 0));
    }

    private static void yearsFrom1900To2199() {
        Check.sentence("Terms", "YEARS 1900 .. 2199");
        // The first weekday of 1900 is a Monday, that of 2199 a Tuesday.
        int[][] years = {{1900, 1}, {2199, 2}};
        for (int[] y : years) {
            int year = y[0];
            ChoirBook book = toldBook();
            Check.due("year " + year, book.year(year, 1), y[1]);
            Check.due("day in " + year, book.day(year, 1, 1), 0);
            Check.due("office in " + year, book.office(year, 0, 0), 2);
            Check.due("also in " + year, book.also(year, 0, 0, 0), 0);
            Check.due("kept in " + year, book.kept(year, 0), 0);
            Check.due("tally in " + year, book.tally(year, 0, 2), 1);
            Check.due("sung in " + year, book.sung(year, 0, 0, 0), 1 + 28 * y[1]);
            Check.due("times in " + year, book.times(year, 0, 0, 1 + 28 * y[1]), 1);
            Check.due("absence in " + year, book.absence(0, year, 0, 0), 1);
            // The monk is absent on the first day.
            Check.due("roster of " + year, book.roster(year, 0, 2), 11 + 2);
        }
    }

    private static void noYearsAreRefusedByEachCall() {
        Check.sentence("Terms", "YEARS 1900 .. 2199");
        ChoirBook book = toldBook();
        for (int year : NO_YEARS) {
            Check.refused("year " + year, book.year(year, 0));
            Check.refused("day in " + year, book.day(year, 1, 1));
            Check.refused("office in " + year, book.office(year, 0, 0));
            Check.refused("also in " + year, book.also(year, 0, 0, 0));
            Check.refused("kept in " + year, book.kept(year, 0));
            Check.refused("tally in " + year, book.tally(year, 0, 0));
            Check.refused("tally of moved in " + year, book.tally(year, 3, 0));
            Check.refused("sung in " + year, book.sung(year, 0, 0, 0));
            Check.refused("times in " + year, book.times(year, 0, 0, 1));
            Check.refused("absence in " + year, book.absence(0, year, 0, 0));
            Check.refused("roster of " + year, book.roster(year, 0, 1));
        }
        Check.refused("no roster was made", book.turn(0, 0, 0));
        Check.due("no absence was told", book.absence(0, 2024, 0, 0), 1);
    }

    /** A feast of rank 8 on 1 January over a weekday of rank 1, and one monk for all roles. */
    private static ChoirBook toldBook() {
        ChoirBook book = new ChoirBook();
        book.dated(101, 101, 1, 1, 0);
        book.feast(0, 101, 8, 0, 1);
        book.monk(7);
        return book;
    }

    private static void gregorianYears() {
        Check.sentence("Terms", "YEARS 1900 .. 2199, Gregorian");
        ChoirBook book = new ChoirBook();
        int[] common = {1900, 1901, 1999, 2001, 2023, 2100, 2199};
        int[] leap = {1904, 1996, 2000, 2004, 2024, 2096, 2104, 2196};
        for (int year : common) {
            Check.due("days of " + year, book.year(year, 0), 365);
            Check.refused("29 February " + year, book.day(year, 2, 29));
            Check.due("1 March " + year, book.day(year, 3, 1), 59);
        }
        for (int year : leap) {
            Check.due("days of " + year, book.year(year, 0), 366);
            Check.due("29 February " + year, book.day(year, 2, 29), 59);
            Check.due("1 March " + year, book.day(year, 3, 1), 60);
        }
    }

    private static void daysOfAYearFrom0On() {
        Check.sentence("Terms", "days of a YEAR from 0 on (1 January)");
        ChoirBook book = new ChoirBook();
        Check.due("1 January 2023", book.day(2023, 1, 1), 0);
        Check.due("1 January 2024", book.day(2024, 1, 1), 0);
        Check.due("31 December 2023", book.day(2023, 12, 31), 364);
        Check.due("31 December 2024", book.day(2024, 12, 31), 365);
        Check.due("31 January", book.day(2024, 1, 31), 30);
        Check.due("1 February", book.day(2024, 2, 1), 31);
    }

    private static void daysAheadOfTheFirstAndBehindTheLast() {
        Check.sentence("Terms", "days of a YEAR from 0 on (1 January)");
        int[][] years = {{2023, 364}, {2024, 365}, {1900, 364}, {2199, 364}};
        for (int[] y : years) {
            ChoirBook book = new ChoirBook();
            book.monk(7);
            book.dated(1231, 1231, 1, 1, 0);
            book.feast(0, 1231, 9, 0, 1);
            int last = y[1];
            Check.due("office on the last", book.office(y[0], last, 5), last);
            Check.due("also on the last", book.also(y[0], last, 0, 2), 1);
            Check.due("times on the last", book.times(y[0], last, last, book.sung(y[0], last, 0, 0)), 1);
            Check.due("absence on the last", book.absence(0, y[0], last, last), 1);
            Check.due("roster on the last", book.roster(y[0], last, 1), 11);
            int[] outside = {-1, last + 1, -365, 1000, Integer.MIN_VALUE, Integer.MAX_VALUE};
            for (int day : outside) {
                Check.refused("office on " + day, book.office(y[0], day, 0));
                Check.refused("also on " + day, book.also(y[0], day, 0, 0));
                Check.refused("sung on " + day, book.sung(y[0], day, 0, 0));
                Check.refused("times from " + day, book.times(y[0], day, last, 1));
                Check.refused("times to " + day, book.times(y[0], 0, day, 1));
                Check.refused("absence from " + day, book.absence(0, y[0], day, last));
                Check.refused("absence to " + day, book.absence(0, y[0], 0, day));
                Check.refused("roster from " + day, book.roster(y[0], day, 1));
            }
        }
    }

    private static void firstOfJanuary1900WasAMonday() {
        Check.sentence("Terms", "1 January 1900 was a Monday.");
        ChoirBook book = new ChoirBook();
        Check.due("weekday of day 0", book.year(1900, 1), 1);
        Check.due("Saturday is no Sunday", book.office(1900, 5, 0), 0);
        Check.due("the first Sunday is day 6", book.office(1900, 6, 0), 1);
        Check.due("the first Monday", kept(2, 111, 1900), 0);
    }

    /** The day of one feast alone. */
    private static int kept(int sort, int a, int year) {
        ChoirBook book = new ChoirBook();
        book.feast(sort, a, 9, 0, 2);
        return book.kept(year, 0);
    }

    private static void easterEarliestAndLatest() {
        Check.sentence("Terms", "day m rem 31 + 1 of month m / 31");
        ChoirBook book = new ChoirBook();
        // 23 March is the earliest that these years have, 25 April the latest.
        int[][] easters = {
            {1913, 3, 23}, {2008, 3, 23}, {2160, 3, 23}, {1943, 4, 25}, {2038, 4, 25}, {2190, 4, 25}, {2000, 4, 23},
            {2011, 4, 24}, {1991, 3, 31}, {2018, 4, 1}, {1900, 4, 15}, {2199, 4, 14}, {1954, 4, 18}, {1981, 4, 19},
            {2049, 4, 18}, {2076, 4, 19}};
        for (int[] e : easters) {
            Check.due("Easter of " + e[0], book.year(e[0], 2), book.day(e[0], e[1], e[2]));
            Check.due("a feast on Easter of " + e[0], kept(1, 0, e[0]), book.day(e[0], e[1], e[2]));
        }
    }

    private static void easterOfEachYear() {
        Check.sentence("Terms", "EASTER (all divisions cut)");
        for (int year = 1900; year <= 2199; year++) {
            ChoirBook book = new ChoirBook();
            PlainBook plain = new PlainBook();
            Check.due("Easter of " + year, book.year(year, 2), plain.year(year, 2));
            Check.due("Easter of " + year + " is a Sunday", book.office(year, book.year(year, 2), 0), 1);
        }
    }

    private static void weekdaysFrom0To6() {
        Check.sentence("Terms", "Weekdays are 0 (Sunday) .. 6.");
        ChoirBook book = new ChoirBook();
        int[] years = {2023, 2024, 2019, 2020, 2015, 2021, 2022};
        for (int weekday = 0; weekday < years.length; weekday++) {
            Check.due("weekday of " + years[weekday], book.year(years[weekday], 1), weekday);
            int sunday = (7 - weekday) % 7;
            Check.due("the Sunday of " + years[weekday], book.office(years[weekday], sunday, 0), 1);
            Check.due("the day behind it", book.office(years[weekday], sunday + 1, 0), 0);
        }
        Check.due("dealt to weekday 0", book.dealt(0, 0, 0), 1);
        Check.due("dealt to weekday 6", book.dealt(6, 0, 1), 0);
        Check.refused("dealt to weekday -1", book.dealt(-1, 0, 1));
        Check.refused("dealt to weekday 7", book.dealt(7, 0, 1));
        Check.due("a feast on weekday 0", book.feast(2, 101, 1, 0, 0), 0);
        Check.due("a feast on weekday 6", book.feast(2, 161, 1, 0, 0), 1);
        Check.refused("a feast on weekday 7", book.feast(2, 171, 1, 0, 0));
    }

    private static void yearWhat0To2() {
        Check.sentence("Promise 2", "Of a YEAR what 0 its days, 1 the weekday of day 0, 2 EASTER's day. NONE.");
        ChoirBook book = new ChoirBook();
        Check.due("what 0", book.year(2000, 0), 366);
        Check.due("what 1", book.year(2000, 1), 6);
        Check.due("what 2", book.year(2000, 2), 113);
        int[] whats = {-1, 3, Integer.MIN_VALUE, Integer.MAX_VALUE};
        for (int what : whats) {
            Check.refused("what " + what, book.year(2000, what));
        }
    }

    private static void dayOfAMonthThatThereIsNot() {
        Check.sentence("Promise 3", "The day of a month and day in a YEAR; NONE if there is none such.");
        ChoirBook book = new ChoirBook();
        int[] lengths = {31, 29, 31, 30, 31, 30, 31, 31, 30, 31, 30, 31};
        int first = 0;
        for (int month = 1; month <= 12; month++) {
            int length = lengths[month - 1];
            Check.refused("day 0 of month " + month, book.day(2024, month, 0));
            Check.due("day 1 of month " + month, book.day(2024, month, 1), first);
            Check.due("the last of month " + month, book.day(2024, month, length), first + length - 1);
            Check.refused("a day behind the last of month " + month, book.day(2024, month, length + 1));
            first += length;
        }
        Check.due("28 February 2023", book.day(2023, 2, 28), 58);
        Check.refused("29 February 2023", book.day(2023, 2, 29));
        int[] noMonths = {0, 13, -1, 100, Integer.MIN_VALUE, Integer.MAX_VALUE};
        for (int month : noMonths) {
            Check.refused("month " + month, book.day(2024, month, 1));
        }
        int[] noDays = {-1, 32, Integer.MIN_VALUE, Integer.MAX_VALUE};
        for (int day : noDays) {
            Check.refused("day " + day, book.day(2024, 1, day));
        }
    }
}
