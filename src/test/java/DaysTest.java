import java.time.LocalDate;

/** Promises 1 to 3. */
public final class DaysTest {
    public static void main(String[] args) {
        nothingIsTold();
        yearsAsTheCalendarHasThem();
        eastersOfOldTables();
        daysAsTheCalendarHasThem();
        wrongYears();
        wrongDays();
        Check.end("DaysTest");
    }

    private static void nothingIsTold() {
        ChoirBook book = new ChoirBook();
        Check.due("1: NONE", ChoirBook.NONE, -1);
        Check.due("1: kept", book.kept(2024, 0), -1);
        Check.due("1: also", book.also(2024, 0, 0, 0), -1);
        Check.due("1: turn", book.turn(0, 0, 0), -1);
        Check.due("1: had", book.had(0, 0), -1);
        Check.due("1: sing", book.sing(0, 0, 0), -1);
        Check.due("1: weekdays", book.tally(2024, 0, 0), 314);
        Check.due("1: Sundays", book.tally(2024, 0, 1), 52);
        Check.due("1: rank 0", book.tally(2024, 1, 0), 314);
        Check.due("1: rank 3", book.tally(2024, 1, 3), 52);
        Check.due("1: colour 0", book.tally(2024, 2, 0), 366);
        Check.due("1: moved", book.tally(2024, 3, 0), 0);
        Check.due("1: hours", book.hours(7), 7);
        Check.due("1: verses", book.verses(150, 10), 10);
        Check.due("1: fixed", book.fix(150, -1), -1);
        Check.due("1: feast rank", book.limit(7), 7);
        Check.due("1: seasons", book.season(0, 0, 1, 0, 0), 1);
        Check.due("1: feasts", book.feast(1, 0, 1, 0, 0), 0);
        Check.due("1: syllables", book.syllable(0, true), 1);
        Check.due("1: monks", book.monk(0), 0);
    }

    private static void yearsAsTheCalendarHasThem() {
        for (int year = 1900; year <= 2199; year++) {
            ChoirBook book = new ChoirBook();
            LocalDate first = LocalDate.of(year, 1, 1);
            Check.due("2: days of " + year, book.year(year, 0), first.lengthOfYear());
            Check.due("2: weekday of " + year, book.year(year, 1), first.getDayOfWeek().getValue() % 7);
            int easter = book.year(year, 2);
            Check.due("2: Easter of " + year + " is a Sunday", first.plusDays(easter).getDayOfWeek().getValue(), 7);
            int early = LocalDate.of(year, 3, 22).getDayOfYear() - 1;
            Check.due("2: Easter of " + year + " in its bounds", easter >= early && easter <= early + 34 ? 1 : 0, 1);
        }
    }

    private static void eastersOfOldTables() {
        ChoirBook book = new ChoirBook();
        int[][] easters = {
            {1900, 4, 15}, {1913, 3, 23}, {1943, 4, 25}, {1954, 4, 18}, {1981, 4, 19}, {2000, 4, 23}, {2008, 3, 23},
            {2011, 4, 24}, {2016, 3, 27}, {2019, 4, 21}, {2024, 3, 31}, {2025, 4, 20}, {2026, 4, 5}, {2038, 4, 25},
            {2049, 4, 18}, {2076, 4, 19}, {2100, 3, 28}, {2160, 3, 23}, {2199, 4, 14}};
        for (int[] e : easters) {
            Check.due("2: Easter of " + e[0], book.year(e[0], 2), LocalDate.of(e[0], e[1], e[2]).getDayOfYear() - 1);
        }
    }

    private static void daysAsTheCalendarHasThem() {
        int[] years = {1900, 1904, 1999, 2000, 2023, 2024, 2100, 2199};
        for (int year : years) {
            ChoirBook book = new ChoirBook();
            LocalDate date = LocalDate.of(year, 1, 1);
            for (int day = 0; day < date.lengthOfYear(); day++) {
                LocalDate d = date.plusDays(day);
                Check.due("3: " + d, book.day(year, d.getMonthValue(), d.getDayOfMonth()), day);
            }
        }
    }

    private static void wrongYears() {
        ChoirBook book = new ChoirBook();
        int[] wrong = {1899, 2200, 0, -1, -1900, Integer.MIN_VALUE, Integer.MAX_VALUE};
        for (int year : wrong) {
            Check.due("2: year " + year, book.year(year, 0), -1);
            Check.due("3: year " + year, book.day(year, 1, 1), -1);
        }
        int[] whats = {-1, 3, Integer.MIN_VALUE, Integer.MAX_VALUE};
        for (int what : whats) {
            Check.due("2: what " + what, book.year(2024, what), -1);
        }
    }

    private static void wrongDays() {
        ChoirBook book = new ChoirBook();
        int[][] wrong = {
            {2024, 0, 1}, {2024, 13, 1}, {2024, 1, 0}, {2024, 1, 32}, {2024, 4, 31}, {2024, 6, 31}, {2024, 9, 31},
            {2024, 11, 31}, {2024, 2, 30}, {2023, 2, 29}, {1900, 2, 29}, {2100, 2, 29}, {2024, -1, 5}, {2024, 5, -1},
            {2024, Integer.MAX_VALUE, 1}, {2024, Integer.MIN_VALUE, 1}, {2024, 1, Integer.MAX_VALUE}};
        for (int[] w : wrong) {
            Check.due("3: day " + w[0] + " " + w[1] + " " + w[2], book.day(w[0], w[1], w[2]), -1);
        }
        Check.due("3: 29 February 2000", book.day(2000, 2, 29), 59);
    }
}
