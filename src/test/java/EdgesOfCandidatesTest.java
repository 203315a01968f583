/** The boundaries of the CANDIDATES, their ORDER and the OFFICE in Terms II: a test for each sentence. */
public final class EdgesOfCandidatesTest {
    public static void main(String[] args) {
        ofAYearAloneAtItsFirstDays();
        ofAYearAloneAtItsLastDays();
        weekdayOrSundayBySeason();
        weekdaysOfRank0AreLetGo();
        feastsWhoseDayItIs();
        octaveOneToSevenDays();
        octaveOnTheSeventhOneMore();
        octaveOfWay1InTheFeastsColour();
        octaveAtTheYearsEnds();
        vigilOnTheDayAhead();
        vigilTwoDaysAheadWhereThatIsASunday();
        vigilAtTheYearsEnds();
        vigilOfRank2AndWay0();
        theGreaterRankFirst();
        kindsInOrderAtOneRank();
        lowerFeastFirst();
        feastsOutsideTheYearAreNoCandidates();
        Check.end("EdgesOfCandidatesTest");
    }

    private static void ofAYearAloneAtItsFirstDays() {
        Check.sentence("Terms", "CANDIDATES of a day, of a YEAR alone, with their KINDS");
        ChoirBook book = new ChoirBook();
        book.feast(0, 1231, 9, 5, 2);
        book.around(0, 8, true);
        book.feast(0, 1226, 9, 5, 2);
        book.around(1, 8, true);
        for (int day = 0; day < 6; day++) {
            Check.due("no octave of the year ahead on day " + day, book.office(2024, day, 0), 0);
        }
        Check.due("nor on the seventh, a Sunday", book.office(2024, 6, 0), 1);
        Check.due("nothing commemorated on it", book.office(2024, 6, 4), 0);
        Check.due("nor in the first of all years", book.office(1900, 0, 0), 0);
    }

    private static void ofAYearAloneAtItsLastDays() {
        Check.sentence("Terms", "CANDIDATES of a day, of a YEAR alone, with their KINDS");
        ChoirBook book = new ChoirBook();
        book.feast(0, 101, 9, 5, 2);
        book.feast(0, 102, 9, 5, 2);
        book.around(0, 8, true);
        book.around(1, 8, true);
        // 31 December 2024 is a Tuesday; 1 January 2024 a Monday, so a vigil would lie on 30 December 2023.
        Check.due("no vigil on 31 December 2024", book.office(2024, 365, 0), 0);
        Check.due("no vigil on 30 December 2024", book.office(2024, 364, 0), 0);
        Check.due("no vigil on 30 December 2023", book.office(2023, 363, 0), 0);
        Check.due("no vigil on 31 December 2199", book.office(2199, 364, 0), 0);
        Check.due("the vigil of 2 January is 1 January's", book.office(2024, 0, 1), 0);
    }

    private static void weekdayOrSundayBySeason() {
        Check.sentence("Terms", "0 its WEEKDAY or 1 its SUNDAY, by the SEASON (WAY 1;");
        ChoirBook book = new ChoirBook();
        book.dated(101, 114, 5, 4, 6);
        int[] kinds = {0, 0, 0, 0, 0, 0, 1, 0, 0, 0, 0, 0, 0, 1, 0};
        for (int day = 0; day < kinds.length; day++) {
            Check.due("kind of day " + day, book.office(2024, day, 0), kinds[day]);
            Check.refused("no feast on day " + day, book.office(2024, day, 1));
            Check.due("rank of day " + day, book.office(2024, day, 2), day == 14 ? 0 : 4 + kinds[day]);
            Check.due("colour of day " + day, book.office(2024, day, 3), day == 14 ? 0 : 6);
        }
        book.feast(0, 107, 9, 0, 2);
        book.feast(0, 108, 9, 0, 2);
        Check.due("the Sunday is commemorated", book.also(2024, 6, 0, 0), 1);
        Check.due("the weekday is commemorated", book.also(2024, 7, 0, 0), 0);
    }

    private static void weekdaysOfRank0AreLetGo() {
        Check.sentence("Terms", "of WEEKDAYS of RANK 0: 0)");
        ChoirBook book = new ChoirBook();
        book.dated(103, 103, 1, 1, 0);
        book.dated(104, 104, 1, 0, 0);
        book.feast(0, 102, 9, 0, 2);
        book.feast(0, 103, 9, 0, 2);
        book.feast(0, 104, 9, 0, 2);
        int[] ranks = {0, 1, 0};
        for (int i = 0; i < ranks.length; i++) {
            Check.due("weekday of rank " + ranks[i], book.office(2024, 1 + i, 4), ranks[i]);
        }
        Check.due("of rank 1", book.also(2024, 2, 0, 2), 1);
        Check.refused("of rank 0", book.also(2024, 1, 0, 0));
    }

    private static void feastsWhoseDayItIs() {
        Check.sentence("Terms", "2 each FEAST whose day it is;");
        ChoirBook book = new ChoirBook();
        book.feast(0, 110, 5, 0, 1);
        book.feast(1, -81, 4, 0, 1);
        book.feast(2, 132, 3, 0, 1);
        Check.due("three on day 9", book.office(2024, 9, 1), 0);
        Check.due("commemorated", book.also(2024, 9, 0, 1), 1);
        Check.due("commemorated", book.also(2024, 9, 1, 1), 2);
        Check.due("not the day ahead", book.office(2024, 8, 0), 0);
        Check.due("nor the day behind", book.office(2024, 10, 0), 0);
    }

    private static void octaveOneToSevenDays() {
        Check.sentence("Terms", "3 the OCTAVE of each FEAST whose day was one to seven days ahead, with its RANK");
        ChoirBook book = new ChoirBook();
        book.feast(0, 109, 9, 0, 2);
        book.around(0, 4, false);
        Check.due("none on the day ahead", book.office(2024, 7, 0), 0);
        Check.due("the feast's day", book.office(2024, 8, 0), 2);
        Check.due("no octave on the feast's day", book.office(2024, 8, 4), 0);
        for (int day = 9; day <= 15; day++) {
            Check.due("octave on day " + day, book.office(2024, day, 0), 3);
            Check.due("of the feast on day " + day, book.office(2024, day, 1), 0);
            Check.due("rank on day " + day, book.office(2024, day, 2), day == 15 ? 5 : 4);
        }
        Check.due("none on the eighth day", book.office(2024, 16, 0), 0);
        Check.due("seven days", book.tally(2024, 0, 3), 7);
        // It goes by the feast's own day, not by the one that it is moved to.
        book.feast(0, 109, 9, 0, 2);
        book.around(1, 6, false);
        Check.due("moved", book.kept(2024, 1), 9);
        Check.due("its octave, seven days behind its own", book.office(2024, 15, 2), 7);
        Check.due("none eight days behind its own", book.office(2024, 16, 0), 0);
    }

    private static void octaveOnTheSeventhOneMore() {
        Check.sentence("Terms", "on the seventh one more");
        for (int octave = 1; octave <= 8; octave++) {
            ChoirBook book = new ChoirBook();
            book.feast(0, 109, 9, 0, 2);
            book.around(0, octave, false);
            Check.due("the first day of " + octave, book.office(2024, 9, 2), octave);
            Check.due("the sixth day of " + octave, book.office(2024, 14, 2), octave);
            Check.due("the seventh day of " + octave, book.office(2024, 15, 2), octave + 1);
        }
    }

    private static void octaveOfWay1InTheFeastsColour() {
        Check.sentence("Terms", "the FEAST's colour (WAY 1); 4 the VIGIL");
        ChoirBook book = new ChoirBook();
        book.feast(0, 109, 9, 6, 0);
        book.around(0, 4, false);
        book.feast(0, 110, 9, 1, 0);
        Check.due("the colour", book.office(2024, 10, 3), 6);
        Check.due("the colour on the seventh", book.office(2024, 15, 3), 6);
        Check.due("commemorated, though the feast is of way 0", book.also(2024, 9, 0, 0), 3);
        Check.due("of the feast", book.also(2024, 9, 0, 1), 0);
        Check.due("with its rank", book.also(2024, 9, 0, 2), 4);
    }

    private static void octaveAtTheYearsEnds() {
        Check.sentence("Terms", "whose day was one to seven days ahead");
        ChoirBook book = new ChoirBook();
        book.feast(0, 1224, 9, 0, 2);
        book.around(0, 4, false);
        // 24 December 2024 is day 358: the seventh day is 31 December, day 365.
        Check.due("the seventh on the last day", book.office(2024, 365, 2), 5);
        Check.due("and in 2023", book.office(2023, 364, 2), 5);
        book.feast(0, 1230, 9, 0, 2);
        book.around(1, 8, false);
        Check.due("its first day is the last of the year", book.office(2024, 365, 1), 1);
        Check.due("of rank 8", book.office(2024, 365, 2), 8);
        Check.due("days of octaves", book.tally(2024, 0, 3), 6);
        book.feast(0, 101, 9, 0, 2);
        book.around(2, 4, false);
        Check.due("its first day is day 1", book.office(2024, 1, 1), 2);
        Check.due("its seventh is day 7", book.office(2024, 7, 2), 5);
        Check.due("over on day 8", book.office(2024, 8, 0), 0);
    }

    private static void vigilOnTheDayAhead() {
        Check.sentence("Terms", "4 the VIGIL of each FEAST whose day is the next one");
        // From Sunday, 7 January 2024, to Saturday, the 13th, but for the Monday.
        int[] dates = {107, 109, 110, 111, 112, 113};
        for (int date : dates) {
            ChoirBook book = new ChoirBook();
            book.feast(0, date, 9, 4, 2);
            book.around(0, 0, true);
            int own = date - 101;
            Check.due("the day ahead of " + date, book.office(2024, own - 1, 0), 4);
            Check.due("its feast", book.office(2024, own - 1, 1), 0);
            Check.due("two days ahead of " + date, book.office(2024, own - 2, 0), own - 2 == 6 ? 1 : 0);
            Check.due("one vigil", book.tally(2024, 0, 4), 1);
        }
    }

    private static void vigilTwoDaysAheadWhereThatIsASunday() {
        Check.sentence("Terms", "or, if that day ahead is a Sunday, two days ahead of it");
        ChoirBook book = new ChoirBook();
        // 8 January 2024 is a Monday.
        book.feast(0, 108, 9, 4, 2);
        book.around(0, 0, true);
        Check.due("the Sunday ahead", book.office(2024, 6, 0), 1);
        Check.due("nothing commemorated on it", book.office(2024, 6, 4), 0);
        Check.due("the Saturday", book.office(2024, 5, 0), 4);
        Check.due("its feast", book.office(2024, 5, 1), 0);
        Check.due("the Friday", book.office(2024, 4, 0), 0);
        Check.due("one vigil", book.tally(2024, 0, 4), 1);
        Check.due("in 2025 it is a Wednesday", book.office(2025, 6, 0), 4);
    }

    private static void vigilAtTheYearsEnds() {
        Check.sentence("Terms", "4 the VIGIL of each FEAST whose day is the next one, or, if that day ahead is a Sunday, two days ahead of it");
        ChoirBook first = vigilOf(101);
        Check.due("of day 0: none", first.tally(2024, 0, 4), 0);
        Check.due("of day 0 behind a Sunday: none", first.tally(2023, 0, 4), 0);
        ChoirBook second = vigilOf(102);
        Check.due("of day 1: on day 0", second.office(2024, 0, 0), 4);
        // 2 January 2023 is a Monday, and 31 December is of another year.
        Check.due("of day 1 behind a Sunday: none", second.tally(2023, 0, 4), 0);
        Check.due("on that Sunday", second.office(2023, 0, 0), 1);
        ChoirBook third = vigilOf(103);
        Check.due("of day 2: on day 1", third.office(2023, 1, 0), 4);
        // 3 January 2022 is a Monday.
        Check.due("of day 2 behind a Sunday: on day 0", third.office(2022, 0, 0), 4);
        ChoirBook last = vigilOf(1231);
        Check.due("of the last day", last.office(2024, 364, 0), 4);
        // 31 December 2029 is a Monday.
        Check.due("of the last day behind a Sunday", last.office(2029, 362, 0), 4);
    }

    private static ChoirBook vigilOf(int date) {
        ChoirBook book = new ChoirBook();
        book.feast(0, date, 9, 4, 2);
        book.around(0, 0, true);
        return book;
    }

    private static void vigilOfRank2AndWay0() {
        Check.sentence("Terms", "RANK 2, the FEAST's colour, WAY 0.");
        ChoirBook book = vigilOf(111);
        Check.due("rank", book.office(2024, 9, 2), 2);
        Check.due("colour", book.office(2024, 9, 3), 4);
        book.feast(0, 110, 1, 1, 1);
        Check.due("ahead of a feast of rank 1", book.office(2024, 9, 0), 4);
        Check.due("which is commemorated", book.also(2024, 9, 0, 1), 1);
        book.raise(1, 3, 1);
        Check.due("behind a feast of rank 3", book.office(2024, 9, 1), 1);
        Check.due("let go, not commemorated", book.office(2024, 9, 4), 0);
    }

    private static void theGreaterRankFirst() {
        Check.sentence("Terms", "ORDER: the greater RANK; then KINDS 2, 3, 1, 4, 0; then the lower FEAST.");
        ChoirBook book = new ChoirBook();
        book.season(-120, 250, 3, 5, 0);
        book.feast(0, 109, 4, 0, 1);
        book.feast(0, 108, 9, 0, 1);
        book.around(1, 6, false);
        // On Tuesday, day 8: an octave of 6, the weekday of 5, a feast of 4.
        Check.due("the octave of 6", book.office(2024, 8, 0), 3);
        Check.due("the weekday of 5", book.also(2024, 8, 0, 0), 0);
        Check.due("the feast of 4", book.also(2024, 8, 1, 0), 2);
        book.raise(0, 5, 1);
        Check.due("a feast of 5 ahead of the weekday", book.also(2024, 8, 0, 0), 2);
        book.raise(0, 6, 1);
        Check.due("a feast of 6 is the office", book.office(2024, 8, 0), 2);
        Check.due("ahead of the octave", book.also(2024, 8, 0, 0), 3);
    }

    private static void kindsInOrderAtOneRank() {
        Check.sentence("Terms", "then KINDS 2, 3, 1, 4, 0;");
        // Sunday, 14 January 2024, day 13, with all at rank 2.
        ChoirBook book = new ChoirBook();
        book.season(-120, 250, 2, 2, 0);
        book.feast(0, 112, 9, 0, 1);
        book.around(0, 2, false);
        Check.due("octave ahead of the Sunday", book.office(2024, 13, 0), 3);
        Check.due("then the Sunday", book.also(2024, 13, 0, 0), 1);
        book.feast(0, 114, 2, 0, 1);
        Check.due("feast ahead of the octave", book.office(2024, 13, 0), 2);
        Check.due("then the octave", book.also(2024, 13, 0, 0), 3);
        Check.due("then the Sunday", book.also(2024, 13, 1, 0), 1);
        // Wednesday, the 17th, day 16: the vigil of the 18th.
        book.feast(0, 118, 9, 0, 1);
        book.around(2, 0, true);
        Check.due("octave ahead of the vigil", book.office(2024, 16, 0), 3);
        Check.due("then the weekday, as the vigil is of way 0", book.also(2024, 16, 0, 0), 0);
        book.around(0, 0, false);
        Check.due("vigil ahead of the weekday", book.office(2024, 16, 0), 4);
        Check.due("then the weekday", book.also(2024, 16, 0, 0), 0);
        book.feast(0, 117, 2, 0, 0);
        Check.due("feast ahead of the vigil", book.office(2024, 16, 0), 2);
        Check.due("then the weekday, as the vigil is of way 0", book.also(2024, 16, 0, 0), 0);
    }

    private static void lowerFeastFirst() {
        Check.sentence("Terms", "then the lower FEAST. The OFFICE is the first in ORDER.");
        ChoirBook book = new ChoirBook();
        // Three feasts meet, and their vigils and octaves with them.
        for (int i = 0; i < 3; i++) {
            book.feast(0, 111, 4, i, 1);
            book.around(i, 1, true);
        }
        Check.due("vigils", book.office(2024, 9, 1), 0);
        Check.due("feasts", book.office(2024, 10, 1), 0);
        Check.due("then feast 1", book.also(2024, 10, 0, 1), 1);
        Check.due("then feast 2", book.also(2024, 10, 1, 1), 2);
        Check.due("octaves", book.office(2024, 11, 1), 0);
        Check.due("then that of 1", book.also(2024, 11, 0, 1), 1);
        Check.due("then that of 2", book.also(2024, 11, 1, 1), 2);
        for (int i = 3; i < 60; i++) {
            book.feast(0, 301, 4, 0, 1);
        }
        book.feast(0, 301, 4, 0, 1);
        Check.due("3 is the lowest of 57", book.office(2024, 60, 1), 3);
        book.raise(59, 5, 1);
        Check.due("a greater rank is ahead of a lower feast", book.office(2024, 60, 1), 59);
        Check.due("then 3", book.also(2024, 60, 0, 1), 3);
        Check.due("then 5", book.also(2024, 60, 2, 1), 5);
    }

    private static void feastsOutsideTheYearAreNoCandidates() {
        Check.sentence("Terms", "CANDIDATES of a day, of a YEAR alone");
        ChoirBook book = new ChoirBook();
        // In 2023 there is no 29 February; 30 days ahead of Easter 2024, day 90, is day 60.
        book.feast(0, 229, 9, 0, 2);
        book.around(0, 8, true);
        Check.due("no vigil in 2023", book.tally(2023, 0, 4), 0);
        Check.due("no octave in 2023", book.tally(2023, 0, 3), 0);
        Check.due("a vigil in 2024", book.office(2024, 58, 0), 4);
        Check.due("octaves in 2024", book.tally(2024, 0, 3), 7);
        book.feast(1, -92, 9, 0, 2);
        book.around(1, 8, true);
        Check.due("two days ahead of day 0: no octave", book.office(2024, 0, 0), 0);
        Check.due("none on its seventh", book.office(2024, 5, 0), 0);
    }
}
