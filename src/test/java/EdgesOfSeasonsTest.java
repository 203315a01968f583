/** The boundaries of the SEASONS in Terms II and of promises 4 and 5: a test for each sentence. */
public final class EdgesOfSeasonsTest {
    private static final int[] EXTREMES = {Integer.MIN_VALUE, Integer.MAX_VALUE};

    public static void main(String[] args) {
        seasonsAtMost10();
        seasonAnswersNoneAt10();
        datedLikewise();
        daysFromOneToAnother();
        toldFromEasterMinus120To250();
        daysFromEasterOutsideTheYear();
        monthsFrom1To12AndDaysFrom1To31();
        theDayThatThereIsNotAsTheMonthsLast();
        fromNotBehindTo();
        rankOfSundaysFrom1To9();
        rankOfWeekdaysFrom0To8();
        colourFrom0To7();
        theOneToldLastThatHasIt();
        withoutASeason();
        numbersNotAsToldTellNothing();
        Check.end("EdgesOfSeasonsTest");
    }

    private static void seasonsAtMost10() {
        Check.sentence("Terms", "SEASONS, at most 10");
        ChoirBook book = new ChoirBook();
        for (int i = 1; i <= 10; i++) {
            int many = i % 2 == 0 ? book.season(-120, 250, i == 10 ? 9 : 1, 0, 0) : book.dated(101, 1231, 1, 0, 0);
            Check.due("season " + i, many, i);
        }
        Check.refused("an eleventh from Easter", book.season(-120, 250, 2, 0, 0));
        Check.refused("an eleventh by dates", book.dated(101, 1231, 2, 0, 0));
        Check.due("the tenth is the one told last", book.office(2024, 6, 2), 9);
    }

    private static void seasonAnswersNoneAt10() {
        Check.sentence("Promise 4", "A SEASON told from EASTER: how many there are. NONE: 10, or numbers not as told.");
        ChoirBook book = new ChoirBook();
        for (int i = 1; i <= 10; i++) {
            Check.due("season " + i, book.season(0, 0, i % 9 + 1, 0, 0), i);
        }
        Check.refused("with 10", book.season(0, 0, 1, 0, 0));
        Check.refused("again", book.season(0, 0, 1, 0, 0));
        Check.due("Easter by the tenth", book.office(2024, 90, 2), 2);
    }

    private static void datedLikewise() {
        Check.sentence("Promise 5", "A SEASON told by months and days (month times 100 and the day): likewise.");
        ChoirBook book = new ChoirBook();
        for (int i = 1; i <= 10; i++) {
            Check.due("season " + i, book.dated(107, 107, i % 9 + 1, 0, 0), i);
        }
        Check.refused("with 10", book.dated(107, 107, 1, 0, 0));
        Check.due("Sunday, 7 January 2024, by the tenth", book.office(2024, 6, 2), 2);
    }

    private static void daysFromOneToAnother() {
        Check.sentence("Terms", "SEASONS, at most 10: days from one to another");
        ChoirBook book = new ChoirBook();
        // Easter 2024 is day 90.
        book.season(-2, 2, 5, 5, 1);
        book.dated(110, 112, 5, 5, 2);
        int[] in = {88, 89, 90, 91, 92};
        for (int day : in) {
            Check.due("day " + day, book.office(2024, day, 2), 5);
        }
        Check.due("the day ahead of the first", book.office(2024, 87, 2), 0);
        Check.due("the day behind the last", book.office(2024, 93, 2), 0);
        int[] due = {0, 2, 2, 2, 0};
        for (int i = 0; i < due.length; i++) {
            Check.due("day " + (8 + i), book.office(2024, 8 + i, 3), due[i]);
        }
    }

    private static void toldFromEasterMinus120To250() {
        Check.sentence("Terms", "either told from EASTER (-120 .. 250)");
        ChoirBook book = new ChoirBook();
        Check.due("-120 to 250", book.season(-120, 250, 1, 0, 0), 1);
        Check.due("-120 alone", book.season(-120, -120, 1, 0, 0), 2);
        Check.due("250 alone", book.season(250, 250, 1, 7, 0), 3);
        Check.refused("from -121", book.season(-121, 0, 1, 0, 0));
        Check.refused("to -121", book.season(-121, -121, 1, 0, 0));
        Check.refused("to 251", book.season(0, 251, 1, 0, 0));
        Check.refused("from 251", book.season(251, 251, 1, 0, 0));
        for (int extreme : EXTREMES) {
            Check.refused("from " + extreme, book.season(extreme, 250, 1, 0, 0));
            Check.refused("to " + extreme, book.season(-120, extreme, 1, 0, 0));
        }
        Check.due("249 days behind Easter 2024", book.office(2024, 339, 2), 0);
        Check.due("250 days behind Easter 2024", book.office(2024, 340, 2), 7);
        Check.due("251 days behind Easter 2024", book.office(2024, 341, 2), 0);
        Check.due("told still three", book.season(0, 0, 1, 0, 0), 4);
    }

    private static void daysFromEasterOutsideTheYear() {
        Check.sentence("Terms", "either told from EASTER (-120 .. 250)");
        // Easter 2024 is day 90, Easter 2038 day 114.
        ChoirBook book = new ChoirBook();
        book.season(-120, -91, 8, 8, 1);
        Check.due("all ahead of day 0", book.tally(2024, 2, 1), 0);
        Check.due("2038 has its last 24 of these", book.tally(2038, 2, 1), 24);
        book.season(-90, -90, 8, 8, 2);
        Check.due("on day 0", book.office(2024, 0, 3), 2);
        Check.due("on day 1", book.office(2024, 1, 3), 0);
        book.season(-120, -90, 8, 8, 3);
        Check.due("from ahead of day 0 on", book.tally(2024, 2, 3), 1);
        book.season(250, 250, 8, 8, 4);
        Check.due("the last day of 2038", book.office(2038, 364, 3), 4);
        Check.due("this one alone", book.tally(2038, 2, 4), 1);
    }

    private static void monthsFrom1To12AndDaysFrom1To31() {
        Check.sentence("Terms", "or as days and months (1 .. 12, 1 .. 31;");
        ChoirBook book = new ChoirBook();
        Check.due("1 January", book.dated(101, 101, 1, 5, 1), 1);
        Check.due("31 December", book.dated(1231, 1231, 1, 5, 2), 2);
        int[] wrong = {0, 1, 31, 99, 100, 132, 199, 200, 600, 1200, 1232, 1299, 1300, 1301, 1331, -101, -1231};
        for (int date : wrong) {
            Check.refused("from " + date, book.dated(date, 1231, 1, 0, 0));
            Check.refused("to " + date, book.dated(101, date, 1, 0, 0));
            Check.refused("from and to " + date, book.dated(date, date, 1, 0, 0));
        }
        for (int extreme : EXTREMES) {
            Check.refused("from " + extreme, book.dated(extreme, 1231, 1, 0, 0));
            Check.refused("to " + extreme, book.dated(101, extreme, 1, 0, 0));
        }
        Check.due("1 January's colour", book.tally(2024, 2, 1), 1);
        Check.due("1 January's colour", book.office(2024, 0, 3), 1);
        Check.due("31 December's colour", book.office(2024, 365, 3), 2);
        Check.due("31 December's colour", book.office(2023, 364, 3), 2);
        Check.due("of one day alone", book.tally(2023, 2, 2), 1);
    }

    private static void theDayThatThereIsNotAsTheMonthsLast() {
        Check.sentence("Terms", "the day that there is not as the month's last)");
        int[][] months = {{2, 59, 58}, {4, 120, 119}, {6, 181, 180}, {9, 273, 272}, {11, 334, 333}};
        for (int[] m : months) {
            ChoirBook book = new ChoirBook();
            book.dated(m[0] * 100 + 31, m[0] * 100 + 31, 1, 1, 7);
            Check.due("31 of month " + m[0] + " of 2024", book.office(2024, m[1], 3), 7);
            Check.due("31 of month " + m[0] + " of 2023", book.office(2023, m[2], 3), 7);
            Check.due("one day of 2024", book.tally(2024, 2, 7), 1);
            Check.due("one day of 2023", book.tally(2023, 2, 7), 1);
        }
        ChoirBook book = new ChoirBook();
        book.dated(229, 229, 1, 1, 7);
        Check.due("29 February 2024", book.office(2024, 59, 3), 7);
        Check.due("29 February, as 28 February 2023", book.office(2023, 58, 3), 7);
        Check.due("29 February, as 28 February 1900", book.office(1900, 58, 3), 7);
        Check.due("29 February 2000", book.office(2000, 59, 3), 7);
        book.dated(131, 230, 1, 1, 6);
        Check.due("31 January to 30 February 2024", book.tally(2024, 2, 6), 30);
        Check.due("31 January to 30 February 2023", book.tally(2023, 2, 6), 29);
        Check.due("1 March is behind it", book.office(2024, 60, 3), 0);
        Check.due("31 January is in it", book.office(2024, 30, 3), 6);
        Check.due("30 January is not", book.office(2024, 29, 3), 0);
    }

    private static void fromNotBehindTo() {
        Check.sentence("Terms", "from not behind to");
        ChoirBook book = new ChoirBook();
        Check.due("the same day from Easter", book.season(5, 5, 1, 1, 1), 1);
        Check.refused("a day behind", book.season(6, 5, 1, 1, 1));
        Check.refused("Easter to the day ahead", book.season(0, -1, 1, 1, 1));
        Check.refused("the last to the first", book.season(250, -120, 1, 1, 1));
        Check.due("the same date", book.dated(505, 505, 1, 1, 2), 2);
        Check.refused("a day behind", book.dated(506, 505, 1, 1, 2));
        Check.refused("a month behind, an earlier day", book.dated(601, 531, 1, 1, 2));
        Check.refused("the last to the first", book.dated(1231, 101, 1, 1, 2));
        Check.due("a later month, an earlier day", book.dated(531, 601, 1, 1, 3), 3);
        Check.due("a day of the first one", book.tally(2024, 2, 1), 1);
        Check.due("5 days behind Easter", book.office(2024, 95, 3), 1);
        Check.due("a day of the second one", book.tally(2024, 2, 2), 1);
        Check.due("two days of the third one", book.tally(2024, 2, 3), 2);
    }

    private static void rankOfSundaysFrom1To9() {
        Check.sentence("Terms", "the RANK of its Sundays (1 .. 9)");
        ChoirBook book = new ChoirBook();
        int[] wrong = {0, 10, -1, Integer.MIN_VALUE, Integer.MAX_VALUE};
        for (int rank : wrong) {
            Check.refused("Sundays of " + rank, book.season(-120, 250, rank, 0, 0));
            Check.refused("Sundays of " + rank + " by dates", book.dated(101, 1231, rank, 0, 0));
        }
        Check.due("Sundays of 1", book.season(-120, 250, 1, 8, 0), 1);
        Check.due("Sunday", book.office(2024, 6, 2), 1);
        Check.due("Sundays of 9", book.season(-120, 250, 9, 0, 0), 2);
        Check.due("Sunday", book.office(2024, 6, 2), 9);
        Check.due("Sundays of 1 by dates", book.dated(101, 1231, 1, 8, 0), 3);
        Check.due("Sunday", book.office(2024, 6, 2), 1);
        Check.due("Sundays of 9 by dates", book.dated(101, 1231, 9, 0, 0), 4);
        Check.due("Sunday", book.office(2024, 6, 2), 9);
    }

    private static void rankOfWeekdaysFrom0To8() {
        Check.sentence("Terms", "of its weekdays (0 .. 8)");
        ChoirBook book = new ChoirBook();
        int[] wrong = {-1, 9, 10, Integer.MIN_VALUE, Integer.MAX_VALUE};
        for (int rank : wrong) {
            Check.refused("weekdays of " + rank, book.season(-120, 250, 1, rank, 0));
            Check.refused("weekdays of " + rank + " by dates", book.dated(101, 1231, 1, rank, 0));
        }
        Check.due("weekdays of 8", book.season(-120, 250, 1, 8, 0), 1);
        Check.due("Monday", book.office(2024, 0, 2), 8);
        Check.due("Saturday", book.office(2024, 5, 2), 8);
        Check.due("weekdays of 0", book.season(-120, 250, 9, 0, 0), 2);
        Check.due("Monday", book.office(2024, 0, 2), 0);
        Check.due("weekdays of 8 by dates", book.dated(101, 1231, 1, 8, 0), 3);
        Check.due("Monday", book.office(2024, 0, 2), 8);
        Check.due("weekdays of 0 by dates", book.dated(101, 1231, 9, 0, 0), 4);
        Check.due("Monday", book.office(2024, 0, 2), 0);
    }

    private static void colourFrom0To7() {
        Check.sentence("Terms", "a colour (0 .. 7). A day's SEASON");
        ChoirBook book = new ChoirBook();
        int[] wrong = {-1, 8, Integer.MIN_VALUE, Integer.MAX_VALUE};
        for (int colour : wrong) {
            Check.refused("colour " + colour, book.season(-120, 250, 1, 0, colour));
            Check.refused("colour " + colour + " by dates", book.dated(101, 1231, 1, 0, colour));
        }
        Check.due("colour 7", book.season(-120, 250, 1, 0, 7), 1);
        Check.due("on a weekday", book.office(2024, 0, 3), 7);
        Check.due("on a Sunday", book.office(2024, 6, 3), 7);
        Check.due("colour 0", book.season(-120, 250, 1, 0, 0), 2);
        Check.due("on a weekday", book.office(2024, 0, 3), 0);
        Check.due("colour 7 by dates", book.dated(101, 1231, 1, 0, 7), 3);
        Check.due("on a Sunday", book.office(2024, 6, 3), 7);
        Check.due("colour 0 by dates", book.dated(101, 1231, 1, 0, 0), 4);
        Check.due("on a Sunday", book.office(2024, 6, 3), 0);
    }

    private static void theOneToldLastThatHasIt() {
        Check.sentence("Terms", "A day's SEASON is the one told last that has it");
        ChoirBook book = new ChoirBook();
        book.dated(101, 1231, 1, 1, 1);
        book.dated(110, 120, 2, 2, 2);
        book.season(-76, -76, 3, 3, 3);
        int[] colours = {1, 2, 2, 2, 2, 2, 3, 2, 2, 2, 2, 2, 1};
        for (int i = 0; i < colours.length; i++) {
            Check.due("day " + (8 + i), book.office(2024, 8 + i, 3), colours[i]);
        }
        book.dated(115, 115, 4, 4, 4);
        Check.due("told behind the one from Easter", book.office(2024, 14, 3), 4);
        Check.due("the Sunday within", book.office(2024, 13, 2), 2);
    }

    private static void withoutASeason() {
        Check.sentence("Terms", "without: Sundays 3, weekdays 0, colour 0.");
        ChoirBook book = new ChoirBook();
        book.dated(110, 111, 9, 8, 7);
        int[] days = {8, 11};
        for (int day : days) {
            Check.due("rank of day " + day, book.office(2024, day, 2), 0);
            Check.due("colour of day " + day, book.office(2024, day, 3), 0);
        }
        Check.due("rank of a Sunday", book.office(2024, 6, 2), 3);
        Check.due("colour of a Sunday", book.office(2024, 6, 3), 0);
        Check.due("weekdays without", book.tally(2023, 1, 0), 365 - 53 - 2);
        Check.due("Sundays without", book.tally(2023, 1, 3), 53);
    }

    private static void numbersNotAsToldTellNothing() {
        Check.sentence("Promise 4", "NONE: 10, or numbers not as told.");
        ChoirBook book = new ChoirBook();
        book.season(-121, 250, 9, 8, 7);
        book.season(-120, 250, 10, 8, 7);
        book.dated(101, 1232, 9, 8, 7);
        book.dated(101, 1231, 9, 9, 7);
        Check.due("a weekday as it was", book.office(2024, 0, 2), 0);
        Check.due("all colours as they were", book.tally(2024, 2, 0), 366);
        Check.due("the first that is told", book.season(-120, 250, 9, 8, 7), 1);
    }
}
