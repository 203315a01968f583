/** The boundaries of the FEASTS in Terms II and of promises 6 to 8: a test for each sentence. */
public final class EdgesOfFeastsTest {
    private static final int[] EXTREMES = {Integer.MIN_VALUE, Integer.MAX_VALUE};

    public static void main(String[] args) {
        feastsFrom0To59();
        aFeastItsNumber();
        sorts0To2();
        twentyNinthFebruaryOnlyWhereItIs();
        aMonthAndDayThatNeverIs();
        daysFromEasterMinus120To250();
        daysFromEasterOutsideTheYear();
        theNthFrom1To5();
        weekdaysOfAMonth();
        notInAYearWithoutThatDay();
        rankFrom1To9();
        colourFrom0To7();
        wayFrom0To2();
        octaveFrom1To8();
        withoutOctaveAndVigilAtFirst();
        aroundAFeastThatThereIsNot();
        raisedRankAndWay();
        raiseOfAFeastThatThereIsNot();
        numbersNotAsToldTellNothing();
        Check.end("EdgesOfFeastsTest");
    }

    private static void feastsFrom0To59() {
        Check.sentence("Terms", "FEASTS 0 .. 59, as they are told");
        ChoirBook book = new ChoirBook();
        for (int i = 0; i < 60; i++) {
            Check.due("feast " + i, book.feast(0, 101 + i % 20, i == 59 ? 9 : 8, i % 8, 1), i);
        }
        Check.refused("a sixty-first", book.feast(0, 201, 9, 0, 2));
        Check.refused("again, from Easter", book.feast(1, 0, 9, 0, 2));
        Check.due("feast 59 is kept", book.kept(2024, 59), 19);
        Check.due("it is the office", book.office(2024, 19, 1), 59);
        Check.due("feast 0 is kept", book.kept(2024, 0), 0);
        Check.due("nothing was told by the sixty-first", book.office(2024, 31, 0), 0);
        Check.refused("feast 60", book.kept(2024, 60));
        Check.refused("feast -1", book.kept(2024, -1));
        Check.due("around feast 59", book.around(59, 8, true), 0);
        Check.refused("around feast 60", book.around(60, 8, true));
        Check.due("raise feast 59", book.raise(59, 1, 0), 0);
        Check.refused("raise feast 60", book.raise(60, 1, 0));
    }

    private static void aFeastItsNumber() {
        Check.sentence("Promise 6", "A FEAST: its number.");
        ChoirBook book = new ChoirBook();
        for (int i = 0; i < 60; i++) {
            Check.refused("rank 10, with " + i, book.feast(i % 3, 111, 10, 0, 0));
            Check.due("feast " + i, book.feast(i % 3, 111, 1 + i % 9, 0, 0), i);
        }
        Check.refused("60", book.feast(0, 111, 1, 0, 0));
    }

    private static void sorts0To2() {
        Check.sentence("Promise 6", "SORT 0: a month times 100 and day; 1: a days from EASTER; 2: a month times 100, weekday times 10 and n.");
        ChoirBook book = new ChoirBook();
        // 111 is 11 January, 111 days behind Easter, and the first Monday of January.
        for (int sort = 0; sort < 3; sort++) {
            Check.due("sort " + sort, book.feast(sort, 111, 9, 0, 0), sort);
        }
        int[] days = {10, 90 + 111, 0};
        for (int feast = 0; feast < 3; feast++) {
            Check.due("day by sort " + feast, book.kept(2024, feast), days[feast]);
        }
        int[] wrong = {-1, 3, Integer.MIN_VALUE, Integer.MAX_VALUE};
        for (int sort : wrong) {
            Check.refused("sort " + sort, book.feast(sort, 111, 9, 0, 0));
        }
    }

    private static void twentyNinthFebruaryOnlyWhereItIs() {
        Check.sentence("Terms", "0 a month and day (29 February only where it is)");
        ChoirBook book = new ChoirBook();
        Check.due("29 February", book.feast(0, 229, 9, 1, 2), 0);
        Check.due("1 March", book.feast(0, 301, 9, 2, 2), 1);
        int[] leap = {1904, 2000, 2024, 2196};
        for (int year : leap) {
            Check.due("kept in " + year, book.kept(year, 0), 59);
            Check.due("1 March " + year, book.kept(year, 1), 60);
        }
        int[] common = {1900, 2023, 2100, 2199};
        for (int year : common) {
            Check.due("not in " + year, book.kept(year, 0), -5);
            Check.due("nor on 28 February " + year, book.office(year, 58, 1), -1);
            Check.due("1 March " + year, book.kept(year, 1), 59);
        }
    }

    private static void aMonthAndDayThatNeverIs() {
        Check.sentence("Promise 6", "NONE: 60, or numbers not as told (a month and day that never is).");
        ChoirBook book = new ChoirBook();
        int[] lengths = {31, 29, 31, 30, 31, 30, 31, 31, 30, 31, 30, 31};
        for (int month = 1; month <= 12; month++) {
            int last = month * 100 + lengths[month - 1];
            Check.refused("day 0 of month " + month, book.feast(0, month * 100, 9, 0, 0));
            Check.due("the first of month " + month, book.feast(0, month * 100 + 1, 9, 0, 0), 2 * month - 2);
            Check.due("the last of month " + month, book.feast(0, last, 9, 0, 0), 2 * month - 1);
            Check.refused("a day behind the last of month " + month, book.feast(0, last + 1, 9, 0, 0));
            Check.refused("day 99 of month " + month, book.feast(0, month * 100 + 99, 9, 0, 0));
            Check.due("kept on the first of month " + month, book.kept(2024, 2 * month - 2), book.day(2024, month, 1));
            Check.due("kept on the last of month " + month, book.kept(2024, 2 * month - 1),
                book.day(2024, month, lengths[month - 1]));
        }
        int[] wrong = {0, 1, 31, 99, 1300, 1301, 1331, 10101, -101, -1, EXTREMES[0], EXTREMES[1]};
        for (int a : wrong) {
            Check.refused("month and day " + a, book.feast(0, a, 9, 0, 0));
        }
    }

    private static void daysFromEasterMinus120To250() {
        Check.sentence("Terms", "1 so many days from EASTER (-120 .. 250)");
        ChoirBook book = new ChoirBook();
        Check.due("-120", book.feast(1, -120, 9, 0, 0), 0);
        Check.due("250", book.feast(1, 250, 9, 0, 0), 1);
        Check.due("0", book.feast(1, 0, 9, 0, 0), 2);
        Check.due("-1", book.feast(1, -1, 9, 0, 0), 3);
        int[] wrong = {-121, 251, EXTREMES[0], EXTREMES[1]};
        for (int a : wrong) {
            Check.refused("days " + a, book.feast(1, a, 9, 0, 0));
        }
        Check.due("250 days behind", book.kept(2024, 1), 90 + 250);
        Check.due("Easter", book.kept(2024, 2), 90);
        Check.due("the day ahead", book.kept(2024, 3), 89);
    }

    private static void daysFromEasterOutsideTheYear() {
        Check.sentence("Terms", "it is not in a YEAR without that day");
        ChoirBook book = new ChoirBook();
        book.feast(1, -120, 9, 0, 2);
        book.feast(1, -90, 9, 0, 2);
        book.feast(1, -91, 9, 0, 2);
        book.feast(1, 250, 9, 0, 2);
        // Easter 2024 is day 90; Easter 2038 is day 114, the latest that there is.
        Check.due("120 ahead of Easter 2024", book.kept(2024, 0), -5);
        Check.due("120 ahead of Easter 2038", book.kept(2038, 0), -5);
        Check.due("on day 0", book.kept(2024, 1), 0);
        Check.due("on day -1", book.kept(2024, 2), -5);
        Check.due("on day 23 of 2038", book.kept(2038, 2), 23);
        Check.due("on the last day of 2038", book.kept(2038, 3), 364);
        book.around(2, 8, true);
        Check.due("no octave of a feast on day -1", book.office(2024, 1, 0), 0);
    }

    private static void theNthFrom1To5() {
        Check.sentence("Terms", "2 the n-th (1 .. 5) of a weekday in a month");
        ChoirBook book = new ChoirBook();
        // January 2024 has five Mondays, from day 0 on.
        for (int n = 1; n <= 5; n++) {
            Check.due("Monday " + n, book.feast(2, 110 + n, 9, 0, 0), n - 1);
            Check.due("day of Monday " + n, book.kept(2024, n - 1), 7 * (n - 1));
        }
        int[] wrong = {110, 116, 117, 118, 119};
        for (int a : wrong) {
            Check.refused("n of " + a, book.feast(2, a, 9, 0, 0));
        }
    }

    private static void weekdaysOfAMonth() {
        Check.sentence("Promise 6", "2: a month times 100, weekday times 10 and n.");
        ChoirBook book = new ChoirBook();
        // The first Sunday of January 2024 is day 6, the first Saturday day 5.
        for (int weekday = 0; weekday <= 6; weekday++) {
            Check.due("weekday " + weekday, book.feast(2, 101 + 10 * weekday, 9, 0, 0), weekday);
            Check.due("day of weekday " + weekday, book.kept(2024, weekday), (weekday + 6) % 7);
        }
        Check.due("first Sunday of December", book.feast(2, 1201, 9, 0, 0), 7);
        Check.due("1 December 2024", book.kept(2024, 7), 335);
        int[] wrong = {171, 181, 191, 1, 61, -101, -111, 1301, 1361, 10101, EXTREMES[0], EXTREMES[1]};
        for (int a : wrong) {
            Check.refused("month and weekday of " + a, book.feast(2, a, 9, 0, 0));
        }
    }

    private static void notInAYearWithoutThatDay() {
        Check.sentence("Terms", "it is not in a YEAR without that day");
        ChoirBook book = new ChoirBook();
        book.feast(2, 245, 9, 0, 2);
        book.feast(2, 125, 9, 0, 2);
        book.feast(2, 145, 9, 0, 2);
        book.feast(2, 1225, 9, 0, 2);
        Check.due("fifth Thursday, 29 February 2024", book.kept(2024, 0), 59);
        Check.due("no fifth Thursday of February 2023", book.kept(2023, 0), -5);
        Check.due("no fifth Thursday of February 2028", book.kept(2028, 0), -5);
        Check.due("fifth Tuesday of January 2024", book.kept(2024, 1), 29);
        Check.due("fifth Thursday of January 2024 would be in February", book.kept(2024, 2), -5);
        Check.due("fifth Tuesday, 31 December 2024", book.kept(2024, 3), 365);
        Check.due("fifth Tuesday of December 2023 would be in 2024", book.kept(2023, 3), -5);
        Check.due("none of them is lost", book.tally(2023, 4, 0), 0);
        Check.due("one is kept", book.tally(2023, 0, 2), 1);
    }

    private static void rankFrom1To9() {
        Check.sentence("Terms", "RANK 1 .. 9, colour 0 .. 7, WAY 0 (let go), 1 (kept in part), 2 (moved)");
        ChoirBook book = new ChoirBook();
        Check.due("rank 1", book.feast(0, 102, 1, 0, 1), 0);
        Check.due("rank 9", book.feast(0, 103, 9, 0, 1), 1);
        int[] wrong = {0, 10, -1, EXTREMES[0], EXTREMES[1]};
        for (int rank : wrong) {
            Check.refused("rank " + rank, book.feast(0, 104, rank, 0, 1));
            Check.refused("raised to " + rank, book.raise(0, rank, 1));
        }
        Check.due("the rank of 1", book.office(2024, 1, 2), 1);
        Check.due("the rank of 9", book.office(2024, 2, 2), 9);
    }

    private static void colourFrom0To7() {
        Check.sentence("Terms", "RANK 1 .. 9, colour 0 .. 7, WAY 0 (let go), 1 (kept in part), 2 (moved)");
        ChoirBook book = new ChoirBook();
        book.dated(101, 131, 1, 0, 3);
        Check.due("colour 0", book.feast(0, 102, 1, 0, 1), 0);
        Check.due("colour 7", book.feast(0, 103, 1, 7, 1), 1);
        int[] wrong = {-1, 8, EXTREMES[0], EXTREMES[1]};
        for (int colour : wrong) {
            Check.refused("colour " + colour, book.feast(0, 104, 1, colour, 1));
        }
        Check.due("the colour 0", book.office(2024, 1, 3), 0);
        Check.due("the colour 7", book.office(2024, 2, 3), 7);
    }

    private static void wayFrom0To2() {
        Check.sentence("Terms", "WAY 0 (let go), 1 (kept in part), 2 (moved)");
        ChoirBook book = new ChoirBook();
        book.feast(0, 102, 9, 0, 0);
        for (int way = 0; way <= 2; way++) {
            Check.due("way " + way, book.feast(0, 102, 1, 0, way), 1 + way);
        }
        int[] wrong = {-1, 3, EXTREMES[0], EXTREMES[1]};
        for (int way : wrong) {
            Check.refused("way " + way, book.feast(0, 102, 1, 0, way));
            Check.refused("raised to way " + way, book.raise(1, 1, way));
        }
        Check.due("let go", book.kept(2024, 1), -3);
        Check.due("kept in part", book.kept(2024, 2), -2);
        Check.due("moved", book.kept(2024, 3), 2);
    }

    private static void octaveFrom1To8() {
        Check.sentence("Terms", "OCTAVE: a RANK 1 .. 8, 0 without; VIGIL or not.");
        ChoirBook book = new ChoirBook();
        book.feast(0, 110, 9, 0, 2);
        int[] wrong = {-1, 9, 10, EXTREMES[0], EXTREMES[1]};
        for (int octave : wrong) {
            Check.refused("octave " + octave, book.around(0, octave, true));
        }
        Check.due("nothing was told by these", book.office(2024, 8, 0), 0);
        Check.due("octave 1", book.around(0, 1, false), 0);
        Check.due("of rank 1", book.office(2024, 10, 2), 1);
        Check.due("an octave", book.office(2024, 10, 0), 3);
        Check.due("its seventh day", book.office(2024, 16, 2), 2);
        Check.due("octave 8", book.around(0, 8, false), 0);
        Check.due("of rank 8", book.office(2024, 10, 2), 8);
        Check.due("its seventh day", book.office(2024, 16, 2), 9);
        Check.due("octave 0", book.around(0, 0, true), 0);
        Check.due("without", book.office(2024, 10, 0), 0);
        Check.due("without to the end", book.office(2024, 16, 0), 0);
        Check.due("a vigil", book.office(2024, 8, 0), 4);
        Check.due("no vigil", book.around(0, 0, false), 0);
        Check.due("none", book.office(2024, 8, 0), 0);
    }

    private static void withoutOctaveAndVigilAtFirst() {
        Check.sentence("Promise 6", "(OCTAVE, VIGIL without at first.)");
        ChoirBook book = new ChoirBook();
        book.feast(0, 110, 9, 0, 2);
        book.around(0, 8, true);
        book.feast(0, 206, 9, 0, 2);
        Check.due("no vigil", book.office(2024, 35, 0), 0);
        Check.due("no octave", book.office(2024, 37, 0), 0);
        Check.due("none of its last day", book.office(2024, 43, 0), 0);
        Check.due("the other has it", book.office(2024, 10, 0), 3);
    }

    private static void aroundAFeastThatThereIsNot() {
        Check.sentence("Promise 7", "The OCTAVE and VIGIL of a FEAST: 0; NONE.");
        ChoirBook book = new ChoirBook();
        Check.refused("none is told", book.around(0, 0, false));
        book.feast(0, 110, 9, 0, 2);
        Check.due("the one that is told", book.around(0, 0, false), 0);
        int[] wrong = {-1, 1, 59, 60, EXTREMES[0], EXTREMES[1]};
        for (int feast : wrong) {
            Check.refused("feast " + feast, book.around(feast, 3, true));
        }
        book.feast(0, 120, 9, 0, 2);
        Check.due("told later, without", book.office(2024, 18, 0), 0);
    }

    private static void raisedRankAndWay() {
        Check.sentence("Promise 8", "The RANK and WAY of a FEAST become others: 0; NONE.");
        ChoirBook book = new ChoirBook();
        // 7 January 2024 is a Sunday, of rank 3.
        book.feast(0, 107, 1, 5, 0);
        int[][] told = {{1, 0, -3}, {1, 1, -2}, {1, 2, 7}, {3, 0, 6}, {9, 2, 6}, {2, 1, -2}, {9, 0, 6}, {2, 2, 7}};
        for (int[] t : told) {
            Check.due("to rank " + t[0] + " and way " + t[1], book.raise(0, t[0], t[1]), 0);
            Check.due("kept by rank " + t[0] + " and way " + t[1], book.kept(2024, 0), t[2]);
        }
        Check.due("its colour stays", book.office(2024, 7, 3), 5);
        Check.due("its rank", book.office(2024, 7, 2), 2);
        int[][] wrong = {{0, 0}, {10, 0}, {1, -1}, {1, 3}, {0, 3}};
        for (int[] w : wrong) {
            Check.refused("to rank " + w[0] + " and way " + w[1], book.raise(0, w[0], w[1]));
        }
        Check.due("as it was", book.kept(2024, 0), 7);
    }

    private static void raiseOfAFeastThatThereIsNot() {
        Check.sentence("Promise 8", "The RANK and WAY of a FEAST become others: 0; NONE.");
        ChoirBook book = new ChoirBook();
        Check.refused("none is told", book.raise(0, 1, 0));
        book.feast(0, 107, 1, 0, 0);
        int[] wrong = {-1, 1, 59, 60, EXTREMES[0], EXTREMES[1]};
        for (int feast : wrong) {
            Check.refused("feast " + feast, book.raise(feast, 9, 2));
        }
        Check.due("told later, as it is told then", book.feast(0, 103, 2, 0, 0), 1);
        Check.due("its rank", book.office(2024, 2, 2), 2);
    }

    private static void numbersNotAsToldTellNothing() {
        Check.sentence("Promise 6", "NONE: 60, or numbers not as told");
        ChoirBook book = new ChoirBook();
        book.feast(0, 230, 9, 0, 0);
        book.feast(0, 101, 10, 0, 0);
        book.feast(0, 101, 9, 8, 0);
        book.feast(0, 101, 9, 0, 3);
        Check.due("no day of theirs", book.tally(2024, 0, 2), 0);
        Check.due("the first that is told", book.feast(0, 101, 9, 0, 0), 0);
    }
}
