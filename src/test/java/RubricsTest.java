/** Promises 4 to 12. */
public final class RubricsTest {
    public static void main(String[] args) {
        seasonsFromEaster();
        seasonsByDates();
        seasonsRefused();
        feastsBySort();
        feastsRefused();
        octavesAndVigils();
        octavesAndVigilsAtTheYearsEnds();
        raised();
        orderOfCandidates();
        movedOneByOne();
        movedNotPastSixtyDays();
        movedNotPastTheYear();
        commemoratedAtMostThree();
        displacedOffices();
        tallies();
        refusedQuestions();
        Check.end("RubricsTest");
    }

    private static void seasonsFromEaster() {
        ChoirBook book = new ChoirBook();
        // Easter 2024 is day 90.
        Check.due("4: season", book.season(-46, -1, 8, 4, 5), 1);
        Check.due("4: day ahead", book.office(2024, 43, 2), 0);
        Check.due("4: first day", book.office(2024, 44, 2), 4);
        Check.due("4: its colour", book.office(2024, 44, 3), 5);
        Check.due("4: a Sunday", book.office(2024, 48, 2), 8);
        Check.due("4: last day", book.office(2024, 89, 2), 4);
        Check.due("4: Easter itself", book.office(2024, 90, 2), 3);
        Check.due("4: Easter's colour", book.office(2024, 90, 3), 0);
        Check.due("4: a later one", book.season(-46, -46, 1, 1, 7), 2);
        Check.due("4: the one told last", book.office(2024, 44, 2), 1);
        Check.due("4: its colour", book.office(2024, 44, 3), 7);
        Check.due("4: next day", book.office(2024, 45, 2), 4);
        Check.due("4: past both ends", book.season(-120, 250, 2, 2, 2), 3);
        Check.due("4: first of the year", book.office(2024, 0, 2), 2);
        Check.due("4: day 340", book.office(2024, 340, 2), 2);
        Check.due("4: day 341", book.office(2024, 341, 2), 0);
        Check.due("4: 2000 to the end", book.office(2000, 363, 2), 2);
        Check.due("4: 2000 behind", book.office(2000, 364, 2), 0);
    }

    private static void seasonsByDates() {
        ChoirBook book = new ChoirBook();
        Check.due("5: dated", book.dated(230, 301, 4, 1, 3), 1);
        Check.due("5: 28 February 2024", book.office(2024, 58, 2), 0);
        Check.due("5: 29 February 2024", book.office(2024, 59, 2), 1);
        Check.due("5: 1 March 2024", book.office(2024, 60, 2), 1);
        Check.due("5: 2 March 2024", book.office(2024, 61, 2), 0);
        Check.due("5: 28 February 2023", book.office(2023, 58, 2), 1);
        Check.due("5: 27 February 2023", book.office(2023, 57, 2), 0);
        Check.due("5: one day", book.dated(1231, 1231, 9, 8, 1), 2);
        Check.due("5: 31 December", book.office(2024, 365, 2), 8);
        Check.due("5: to a month's last", book.dated(401, 431, 5, 2, 6), 3);
        Check.due("5: 30 April", book.office(2023, 119, 3), 6);
        Check.due("5: 1 May", book.office(2023, 120, 3), 0);
        Check.due("5: both on the last of February", book.dated(230, 231, 5, 3, 6), 4);
        Check.due("5: 29 February", book.office(2024, 59, 2), 3);
    }

    private static void seasonsRefused() {
        ChoirBook book = new ChoirBook();
        int[][] wrong = {
            {-121, 0, 1, 0, 0}, {0, 251, 1, 0, 0}, {1, 0, 1, 0, 0}, {0, 0, 0, 0, 0}, {0, 0, 10, 0, 0}, {0, 0, 1, -1, 0},
            {0, 0, 1, 9, 0}, {0, 0, 1, 0, -1}, {0, 0, 1, 0, 8}, {Integer.MIN_VALUE, 0, 1, 0, 0}};
        for (int[] w : wrong) {
            Check.due("4: " + w[0] + " " + w[1], book.season(w[0], w[1], w[2], w[3], w[4]), -1);
        }
        int[][] wrongDates = {
            {1, 101, 1, 0, 0}, {100, 101, 1, 0, 0}, {132, 201, 1, 0, 0}, {101, 1301, 1, 0, 0}, {102, 101, 1, 0, 0},
            {101, 132, 1, 0, 0}, {101, 102, 0, 0, 0}, {101, 102, 10, 0, 0}, {101, 102, 1, 9, 0}, {101, 102, 1, 0, 8},
            {101, 102, 1, -1, 0}, {101, 102, 1, 0, -1}, {-101, 102, 1, 0, 0}, {Integer.MIN_VALUE, 1231, 1, 0, 0},
            {101, Integer.MAX_VALUE, 1, 0, 0}};
        for (int[] w : wrongDates) {
            Check.due("5: " + w[0] + " " + w[1], book.dated(w[0], w[1], w[2], w[3], w[4]), -1);
        }
        Check.due("4: nothing told by these", book.season(-120, 250, 9, 8, 7), 1);
        for (int i = 2; i <= 10; i++) {
            Check.due("5: " + i, book.dated(101, 1231, 1, 0, 0), i);
        }
        Check.due("4: an eleventh", book.season(0, 0, 1, 0, 0), -1);
        Check.due("5: an eleventh", book.dated(101, 101, 1, 0, 0), -1);
    }

    private static void feastsBySort() {
        ChoirBook book = new ChoirBook();
        Check.due("6: by date", book.feast(0, 229, 5, 1, 1), 0);
        Check.due("6: from Easter", book.feast(1, -120, 5, 2, 1), 1);
        Check.due("6: from Easter", book.feast(1, 250, 5, 3, 1), 2);
        Check.due("6: fifth Monday of April", book.feast(2, 415, 5, 4, 1), 3);
        Check.due("6: fourth Sunday of November", book.feast(2, 1104, 5, 5, 1), 4);
        Check.due("6: first Saturday of December", book.feast(2, 1261, 5, 6, 1), 5);
        Check.due("11: 29 February 2024", book.kept(2024, 0), 59);
        Check.due("11: none in 2023", book.kept(2023, 0), -5);
        Check.due("11: none in 1900", book.kept(1900, 0), -5);
        Check.due("11: ahead of the year", book.kept(2024, 1), -5);
        Check.due("11: 25 April 2038 less 120", book.kept(2038, 1), -5);
        Check.due("11: day 340", book.kept(2024, 2), 340);
        Check.due("6: past 250", book.feast(1, 252, 1, 0, 0), -1);
        Check.due("11: five Mondays in April 2024", book.kept(2024, 3), 119);
        Check.due("11: four in April 2025", book.kept(2025, 3), -5);
        Check.due("11: 24 November 2024", book.kept(2024, 4), 328);
        Check.due("11: 7 December 2024", book.kept(2024, 5), 341);
        Check.due("9: its colour", book.office(2024, 341, 3), 6);
        Check.due("9: its rank", book.office(2024, 341, 2), 5);
        // Easter 2038 is day 114, the latest that there is.
        Check.due("6: 114 days ahead of Easter", book.feast(1, -114, 5, 0, 1), 6);
        Check.due("11: on day 0", book.kept(2038, 6), 0);
        Check.due("11: 250 days behind", book.kept(2038, 2), 364);
    }

    private static void feastsRefused() {
        ChoirBook book = new ChoirBook();
        int[][] wrong = {
            {-1, 101, 1, 0, 0}, {3, 101, 1, 0, 0}, {0, 230, 1, 0, 0}, {0, 431, 1, 0, 0}, {0, 1301, 1, 0, 0},
            {0, 100, 1, 0, 0}, {0, 1, 1, 0, 0}, {0, -101, 1, 0, 0}, {0, 132, 1, 0, 0}, {1, -121, 1, 0, 0},
            {1, 251, 1, 0, 0}, {2, 100, 1, 0, 0}, {2, 106, 1, 0, 0}, {2, 171, 1, 0, 0}, {2, 1, 1, 0, 0},
            {2, 1301, 1, 0, 0}, {2, -101, 1, 0, 0}, {0, 101, 0, 0, 0}, {0, 101, 10, 0, 0}, {0, 101, 1, -1, 0},
            {0, 101, 1, 8, 0}, {0, 101, 1, 0, -1}, {0, 101, 1, 0, 3}, {2, Integer.MAX_VALUE, 1, 0, 0},
            {0, Integer.MIN_VALUE, 1, 0, 0}, {1, Integer.MIN_VALUE, 1, 0, 0}};
        for (int[] w : wrong) {
            Check.due("6: " + w[0] + " " + w[1], book.feast(w[0], w[1], w[2], w[3], w[4]), -1);
        }
        for (int i = 0; i < 60; i++) {
            Check.due("6: feast " + i, book.feast(0, 101, 1, 0, 0), i);
        }
        Check.due("6: a sixty-first", book.feast(0, 101, 1, 0, 0), -1);
        Check.due("11: the last", book.kept(2024, 59), -3);
        Check.due("11: past it", book.kept(2024, 60), -1);
    }

    private static void octavesAndVigils() {
        ChoirBook book = new ChoirBook();
        // 10 January 2024 is a Wednesday, day 9.
        book.feast(0, 110, 6, 5, 2);
        Check.due("6: no vigil at first", book.office(2024, 8, 0), 0);
        Check.due("6: no octave at first", book.office(2024, 10, 0), 0);
        Check.due("7: around", book.around(0, 3, true), 0);
        Check.due("9: vigil", book.office(2024, 8, 0), 4);
        Check.due("9: of the feast", book.office(2024, 8, 1), 0);
        Check.due("9: rank 2", book.office(2024, 8, 2), 2);
        Check.due("9: its colour", book.office(2024, 8, 3), 5);
        Check.due("9: this day", book.office(2024, 8, 5), 8);
        Check.due("9: none two days ahead", book.office(2024, 7, 0), 0);
        for (int day = 10; day <= 15; day++) {
            Check.due("9: octave of rank 3", book.office(2024, day, 0), 3);
            Check.due("9: octave of rank 3", book.office(2024, day, 2), 3);
            Check.due("9: this day", book.office(2024, day, 5), day);
        }
        Check.due("9: the eighth day", book.office(2024, 16, 2), 4);
        Check.due("9: its colour", book.office(2024, 16, 3), 5);
        Check.due("9: over", book.office(2024, 17, 0), 0);
        // The Sunday of rank 3 within is behind the octave of rank 3.
        Check.due("10: the Sunday", book.also(2024, 13, 0, 0), 1);
        Check.due("10: no feast", book.also(2024, 13, 0, 1), -1);
        Check.due("10: its rank", book.also(2024, 13, 0, 2), 3);
        Check.due("7: without", book.around(0, 0, false), 0);
        Check.due("9: no vigil", book.office(2024, 8, 0), 0);
        Check.due("9: no octave", book.office(2024, 10, 0), 0);
        Check.due("7: octave of rank 8", book.around(0, 8, false), 0);
        Check.due("9: the eighth day has rank 9", book.office(2024, 16, 2), 9);
        Check.due("7: octave -1", book.around(0, -1, false), -1);
        Check.due("7: octave 9", book.around(0, 9, false), -1);
        Check.due("7: feast -1", book.around(-1, 1, false), -1);
        Check.due("7: feast 1", book.around(1, 1, false), -1);
        Check.due("7: as it was", book.office(2024, 10, 2), 8);
    }

    private static void octavesAndVigilsAtTheYearsEnds() {
        ChoirBook book = new ChoirBook();
        book.feast(0, 101, 5, 1, 0);
        book.feast(0, 102, 5, 1, 0);
        book.feast(0, 1231, 5, 1, 0);
        book.around(0, 2, true);
        book.around(1, 0, true);
        book.around(2, 4, true);
        Check.due("9: of a year alone", book.office(2023, 364, 1), 2);
        Check.due("9: of a year alone", book.office(2023, 363, 0), 4);
        Check.due("10: no vigil of the next year", book.office(2023, 364, 4), 1);
        Check.due("10: only its Sunday", book.also(2023, 364, 0, 0), 1);
        Check.due("9: no octave of the year behind", book.office(2024, 2, 2), 2);
        Check.due("9: 1 January", book.office(2024, 0, 1), 0);
        // 2 January 2023 is a Monday: the vigil would be on 31 December 2022.
        Check.due("9: 31 December 2022", book.office(2022, 364, 1), 2);
        Check.due("9: 30 December 2022", book.office(2022, 363, 0), 4);
        Check.due("9: 29 December 2022", book.office(2022, 362, 0), 0);
        // 9 January 2023 is a Monday: its vigil is on the Saturday.
        book.feast(0, 109, 5, 2, 0);
        book.around(3, 0, true);
        book.around(0, 0, false);
        Check.due("9: the Sunday ahead", book.office(2023, 7, 0), 1);
        Check.due("9: the Saturday ahead", book.office(2023, 6, 0), 4);
        Check.due("9: its feast", book.office(2023, 6, 1), 3);
    }

    private static void raised() {
        ChoirBook book = new ChoirBook();
        book.feast(0, 107, 2, 0, 1);
        Check.due("11: below a Sunday", book.kept(2024, 0), -2);
        Check.due("8: raise", book.raise(0, 3, 0), 0);
        Check.due("11: ahead of a Sunday", book.kept(2024, 0), 6);
        Check.due("9: rank", book.office(2024, 6, 2), 3);
        Check.due("8: lower again", book.raise(0, 2, 0), 0);
        Check.due("11: let go", book.kept(2024, 0), -3);
        Check.due("8: moved", book.raise(0, 2, 2), 0);
        Check.due("11: moved", book.kept(2024, 0), 7);
        int[][] wrong = {{-1, 1, 0}, {1, 1, 0}, {0, 0, 0}, {0, 10, 0}, {0, 1, -1}, {0, 1, 3}, {60, 1, 0}};
        for (int[] w : wrong) {
            Check.due("8: " + w[0] + " " + w[1] + " " + w[2], book.raise(w[0], w[1], w[2]), -1);
        }
        Check.due("8: as it was", book.kept(2024, 0), 7);
        Check.due("9: as it was", book.office(2024, 7, 2), 2);
    }

    private static void orderOfCandidates() {
        ChoirBook book = new ChoirBook();
        // All are of rank 2 and meet on Sunday, 14 January 2024, day 13.
        book.season(-120, 250, 2, 2, 6);
        book.feast(0, 115, 9, 1, 1);
        book.around(0, 0, true);
        book.feast(0, 112, 9, 2, 1);
        book.around(1, 2, false);
        book.feast(0, 110, 9, 3, 1);
        book.around(2, 2, false);
        Check.due("9: octave, the lower feast", book.office(2024, 13, 1), 1);
        Check.due("10: octave", book.also(2024, 13, 0, 1), 2);
        Check.due("10: Sunday", book.also(2024, 13, 1, 0), 1);
        Check.due("9: two of them", book.office(2024, 13, 4), 2);
        book.feast(0, 114, 2, 4, 1);
        Check.due("9: the feast", book.office(2024, 13, 1), 3);
        Check.due("10: octave", book.also(2024, 13, 0, 1), 1);
        Check.due("10: octave", book.also(2024, 13, 1, 1), 2);
        Check.due("10: Sunday", book.also(2024, 13, 2, 0), 1);
        Check.due("9: three of them", book.office(2024, 13, 4), 3);
        // A Monday feast puts its vigil on the Saturday, day 12, of rank 2 as well.
        Check.due("9: octave ahead of the vigil", book.office(2024, 12, 0), 3);
        Check.due("10: then the other octave", book.also(2024, 12, 0, 1), 2);
        Check.due("10: then the weekday", book.also(2024, 12, 1, 0), 0);
        Check.due("9: a vigil is let go", book.office(2024, 12, 4), 2);
        ChoirBook plain = new ChoirBook();
        plain.season(-120, 250, 2, 2, 6);
        plain.feast(0, 111, 9, 1, 1);
        plain.around(0, 0, true);
        Check.due("9: vigil ahead of the weekday", plain.office(2024, 9, 0), 4);
        Check.due("10: the weekday of rank 2", plain.also(2024, 9, 0, 0), 0);
    }

    private static void movedOneByOne() {
        ChoirBook book = new ChoirBook();
        // All on Monday, 1 January 2024, but the last.
        book.feast(0, 101, 9, 0, 2);
        book.feast(0, 101, 4, 1, 2);
        book.feast(0, 101, 6, 2, 2);
        book.feast(0, 101, 4, 3, 2);
        book.feast(0, 102, 5, 4, 2);
        Check.due("11: stays", book.kept(2024, 0), 0);
        Check.due("11: stays", book.kept(2024, 4), 1);
        Check.due("11: the greater rank first", book.kept(2024, 2), 2);
        Check.due("11: the lower number next", book.kept(2024, 1), 3);
        Check.due("11: then the other", book.kept(2024, 3), 4);
        Check.due("9: its own day", book.office(2024, 4, 5), 0);
        Check.due("9: its colour", book.office(2024, 4, 3), 3);
        Check.due("12: moved", book.tally(2024, 3, 0), 3);
        // A feast of rank 9 that lets the Tuesday feast go, which is earlier than it in rank only.
        book.feast(0, 102, 9, 5, 1);
        Check.due("11: greater rank ahead of the earlier day", book.kept(2024, 2), 2);
        Check.due("11: rank 5 next", book.kept(2024, 4), 3);
        Check.due("11: rank 4", book.kept(2024, 1), 4);
        Check.due("11: rank 4", book.kept(2024, 3), 5);
        ChoirBook two = new ChoirBook();
        two.season(-120, 250, 9, 8, 0);
        two.dated(108, 109, 1, 1, 0);
        two.feast(0, 105, 4, 0, 2);
        two.feast(0, 104, 4, 0, 2);
        Check.due("11: the earlier day first", two.kept(2024, 1), 7);
        Check.due("11: then the later one", two.kept(2024, 0), 8);
    }

    private static void movedNotPastSixtyDays() {
        ChoirBook book = new ChoirBook();
        book.season(-90, 250, 9, 8, 0);
        book.feast(0, 101, 8, 0, 2);
        book.dated(101, 101, 9, 8, 0);
        book.raise(0, 7, 2);
        Check.due("11: lost", book.kept(2024, 0), -4);
        Check.due("12: lost", book.tally(2024, 4, 0), 1);
        Check.due("12: moved", book.tally(2024, 3, 0), 0);
        book.dated(302, 302, 1, 1, 0);
        Check.due("11: the sixty-first day", book.kept(2024, 0), -4);
        book.dated(301, 301, 1, 1, 0);
        Check.due("11: the sixtieth day", book.kept(2024, 0), 60);
        Check.due("9: its own day", book.office(2024, 60, 5), 0);
        Check.due("10: the weekday there", book.also(2024, 60, 0, 0), 0);
        book.dated(301, 301, 1, 7, 0);
        Check.due("11: the same rank holds", book.kept(2024, 0), -4);
    }

    private static void movedNotPastTheYear() {
        ChoirBook book = new ChoirBook();
        book.feast(0, 1231, 4, 0, 1);
        book.feast(0, 1231, 3, 0, 2);
        Check.due("11: no day behind", book.kept(2024, 1), -4);
        Check.due("9: next year's first", book.office(2025, 0, 0), 0);
        book.feast(0, 1230, 4, 0, 1);
        book.feast(0, 1230, 3, 0, 2);
        Check.due("11: the last day holds a greater rank", book.kept(2024, 3), -4);
        book.raise(0, 2, 1);
        Check.due("11: its own day now", book.kept(2024, 1), 365);
        book.raise(1, 1, 2);
        Check.due("11: the last day gives way", book.kept(2024, 3), 365);
        Check.due("11: what was there is kept in part", book.kept(2024, 0), -2);
        Check.due("11: and lost", book.kept(2024, 1), -4);
        Check.due("12: lost", book.tally(2024, 4, 0), 1);
    }

    private static void commemoratedAtMostThree() {
        ChoirBook book = new ChoirBook();
        for (int i = 0; i < 6; i++) {
            book.feast(0, 103, 4 + i % 3, 0, 1);
        }
        book.feast(0, 103, 9, 0, 0);
        book.feast(0, 103, 8, 0, 0);
        book.feast(0, 103, 7, 0, 2);
        Check.due("11: the office", book.kept(2024, 6), 2);
        Check.due("11: way 0", book.kept(2024, 7), -3);
        Check.due("11: way 2", book.kept(2024, 8), 3);
        int[] also = {2, 5, 1};
        for (int i = 0; i < also.length; i++) {
            Check.due("10: feast " + i, book.also(2024, 2, i, 1), also[i]);
            Check.due("10: kind " + i, book.also(2024, 2, i, 0), 2);
            Check.due("11: in part", book.kept(2024, also[i]), -2);
        }
        Check.due("10: rank", book.also(2024, 2, 0, 2), 6);
        Check.due("10: rank", book.also(2024, 2, 2, 2), 5);
        Check.due("10: no fourth", book.also(2024, 2, 3, 1), -1);
        Check.due("11: the fourth is let go", book.kept(2024, 4), -3);
        Check.due("11: let go", book.kept(2024, 0), -3);
        Check.due("11: let go", book.kept(2024, 3), -3);
        Check.due("9: three", book.office(2024, 2, 4), 3);
        Check.due("12: commemorated", book.tally(2024, 5, 0), 3);
        Check.due("12: let go", book.tally(2024, 6, 0), 4);
    }

    private static void displacedOffices() {
        ChoirBook book = new ChoirBook();
        book.feast(0, 101, 9, 0, 0);
        book.feast(0, 101, 8, 1, 2);
        book.feast(0, 102, 3, 2, 1);
        book.feast(0, 102, 2, 3, 2);
        book.feast(0, 104, 5, 4, 0);
        book.around(4, 4, false);
        Check.due("11: onto the feast of way 1", book.kept(2024, 1), 1);
        Check.due("11: which is kept in part", book.kept(2024, 2), -2);
        Check.due("11: and moved beside", book.kept(2024, 3), 2);
        Check.due("9: own day", book.office(2024, 1, 5), 0);
        Check.due("10: in part", book.also(2024, 1, 0, 1), 2);
        Check.due("9: one", book.office(2024, 1, 4), 1);
        // An octave of a feast of way 2 is no feast of way 2.
        book.raise(4, 5, 2);
        book.feast(0, 104, 5, 5, 2);
        Check.due("11: onto its octave", book.kept(2024, 5), 4);
        Check.due("10: the octave in part", book.also(2024, 4, 0, 0), 3);
        Check.due("10: of its feast", book.also(2024, 4, 0, 1), 4);
    }

    private static void tallies() {
        ChoirBook book = new ChoirBook();
        book.dated(1201, 1231, 5, 1, 3);
        book.feast(0, 1225, 9, 2, 2);
        book.around(0, 4, true);
        book.feast(0, 1226, 3, 4, 1);
        book.feast(0, 1227, 2, 4, 0);
        // December 2024: Sundays 1, 8, 15, 22 and, within the octave, 29.
        Check.due("12: weekdays", book.tally(2024, 0, 0), 366 - 52 - 1 - 1 - 5);
        Check.due("12: Sundays", book.tally(2024, 0, 1), 52);
        Check.due("12: feasts", book.tally(2024, 0, 2), 1);
        Check.due("12: octaves", book.tally(2024, 0, 3), 5);
        Check.due("12: vigils", book.tally(2024, 0, 4), 1);
        Check.due("12: rank 9", book.tally(2024, 1, 9), 1);
        Check.due("12: rank 5", book.tally(2024, 1, 5), 5);
        Check.due("12: rank 4", book.tally(2024, 1, 4), 5);
        Check.due("12: rank 3", book.tally(2024, 1, 3), 47);
        Check.due("12: rank 2", book.tally(2024, 1, 2), 1);
        Check.due("12: rank 1", book.tally(2024, 1, 1), 19);
        Check.due("12: rank 0", book.tally(2024, 1, 0), 366 - 31 - 47);
        Check.due("12: rank 7", book.tally(2024, 1, 7), 0);
        Check.due("12: colour 2", book.tally(2024, 2, 2), 7);
        Check.due("12: colour 3", book.tally(2024, 2, 3), 24);
        Check.due("12: colour 4", book.tally(2024, 2, 4), 0);
        Check.due("12: commemorated", book.tally(2024, 5, 0), 1);
        Check.due("12: let go", book.tally(2024, 6, 0), 1);
        int[][] wrong = {
            {2024, -1, 0}, {2024, 7, 0}, {1899, 0, 0}, {2200, 3, 0}, {1899, 0, -1}, {2200, 2, 8}, {2024, 7, -1},
            {2024, 3, 1}, {2024, 3, -1}, {2024, 4, 1}, {2024, 4, -1}, {2024, 5, 1}, {2024, 5, -1}, {2024, 6, 1},
            {2024, 6, -1}};
        for (int[] w : wrong) {
            Check.due("12: " + w[0] + " " + w[1] + " " + w[2], book.tally(w[0], w[1], w[2]), -1);
        }
        tallyOfWhatNoOfficeHas(book);
    }

    private static void tallyOfWhatNoOfficeHas(ChoirBook book) {
        int[] values = {-1, -2, 5, 8, 10, 64, Integer.MIN_VALUE, Integer.MAX_VALUE};
        for (int what = 0; what < 3; what++) {
            for (int v : values) {
                // Rank 5 is an octave's here; no office has another of these.
                int days = what == 1 && v == 5 ? 5 : 0;
                Check.due("12: " + what + " " + v, book.tally(2024, what, v), days);
                Check.due("12: new " + what + " " + v, new ChoirBook().tally(2048, what, v), 0);
            }
        }
    }

    private static void refusedQuestions() {
        ChoirBook book = new ChoirBook();
        book.feast(0, 107, 2, 0, 1);
        int[][] wrong = {{1899, 0, 0}, {2200, 0, 0}, {2024, -1, 0}, {2024, 366, 0}, {2023, 365, 0}, {2024, 0, -1}, {2024, 0, 6}};
        for (int[] w : wrong) {
            Check.due("9: " + w[0] + " " + w[1] + " " + w[2], book.office(w[0], w[1], w[2]), -1);
        }
        Check.due("9: the last day", book.office(2024, 365, 5), 365);
        Check.due("10: there", book.also(2024, 6, 0, 1), 0);
        Check.due("10: year", book.also(1899, 6, 0, 0), -1);
        Check.due("10: day", book.also(2024, -1, 0, 0), -1);
        Check.due("10: day", book.also(2024, 366, 0, 0), -1);
        Check.due("10: i", book.also(2024, 6, -1, 0), -1);
        Check.due("10: i", book.also(2024, 6, 1, 0), -1);
        Check.due("10: i", book.also(2024, 5, 3, 0), -1);
        Check.due("10: what", book.also(2024, 6, 0, -1), -1);
        Check.due("10: what", book.also(2024, 6, 0, 3), -1);
        Check.due("11: year", book.kept(1899, 0), -1);
        Check.due("11: year", book.kept(2200, 0), -1);
        Check.due("11: feast", book.kept(2024, -1), -1);
        Check.due("11: feast", book.kept(2024, 1), -1);
    }
}
