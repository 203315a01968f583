/** Promises 13 to 20. */
public final class PsalmsTest {
    public static void main(String[] args) {
        versesOfPsalms();
        hoursOfTheDay();
        fixedPsalms();
        festalPsalms();
        feastRank();
        dealtByLeastLimit();
        dealtWithoutPsalms();
        sungOnADay();
        sungInTimes();
        refusedQuestions();
        Check.end("PsalmsTest");
    }

    private static void versesOfPsalms() {
        ChoirBook book = new ChoirBook();
        Check.due("13: at first", book.verses(1, 200), 10);
        Check.due("13: then", book.verses(1, 1), 200);
        Check.due("13: the last", book.verses(150, 7), 10);
        int[][] wrong = {{0, 5}, {151, 5}, {-1, 5}, {1, 0}, {1, 201}, {1, -1}, {Integer.MAX_VALUE, 5}, {1, Integer.MIN_VALUE}};
        for (int[] w : wrong) {
            Check.due("13: " + w[0] + " " + w[1], book.verses(w[0], w[1]), -1);
        }
        Check.due("13: as it was", book.verses(1, 3), 1);
    }

    private static void hoursOfTheDay() {
        ChoirBook book = new ChoirBook();
        Check.due("14: at first", book.hours(8), 7);
        Check.due("14: then", book.hours(1), 8);
        Check.due("14: one", book.hours(7), 1);
        int[] wrong = {0, 9, -1, Integer.MAX_VALUE, Integer.MIN_VALUE};
        for (int many : wrong) {
            Check.due("14: " + many, book.hours(many), -1);
        }
        for (int psalm = 1; psalm <= 150; psalm += 149) {
            book.fix(psalm, 6);
            Check.due("14: psalm " + psalm + " is fixed", book.hours(6), -1);
            book.fix(psalm, -1);
        }
        book.fix(20, 4);
        Check.due("14: fixed at the last", book.hours(5), 7);
        Check.due("14: fixed at one that goes", book.hours(4), -1);
        book.fix(20, -1);
        Check.due("14: not any more", book.hours(4), 5);
        book.hours(7);
        book.festal(2, 20);
        Check.due("14: festal at one that goes", book.hours(2), -1);
        Check.due("14: festal at the last", book.hours(3), 7);
        Check.due("14: as it was", book.hours(3), 3);
    }

    private static void fixedPsalms() {
        ChoirBook book = new ChoirBook();
        Check.due("15: fixed", book.fix(4, 6), -1);
        Check.due("15: elsewhere", book.fix(4, 0), 6);
        Check.due("15: not any more", book.fix(4, -1), 0);
        Check.due("15: it was not", book.fix(4, -1), -1);
        int[][] wrong = {{0, 0}, {151, 0}, {1, 7}, {1, -2}, {0, -1}, {151, -1}, {-1, 3}, {1, Integer.MAX_VALUE},
            {1, Integer.MIN_VALUE}, {Integer.MIN_VALUE, 0}};
        for (int[] w : wrong) {
            Check.due("15: " + w[0] + " " + w[1], book.fix(w[0], w[1]), -2);
        }
        book.hours(3);
        Check.due("15: an hour that went", book.fix(1, 3), -2);
        Check.due("15: the last hour", book.fix(1, 2), -1);
    }

    private static void festalPsalms() {
        ChoirBook book = new ChoirBook();
        int[][] wrong = {{-1, 1}, {7, 1}, {0, 0}, {0, 151}, {Integer.MAX_VALUE, 1}, {0, Integer.MIN_VALUE}};
        for (int[] w : wrong) {
            Check.due("16: " + w[0] + " " + w[1], book.festal(w[0], w[1]), -1);
        }
        for (int i = 1; i <= 6; i++) {
            Check.due("16: " + i, book.festal(3, 150 - i), i);
        }
        Check.due("16: a seventh", book.festal(3, 1), -1);
        Check.due("16: another hour", book.festal(4, 1), 1);
        Check.due("16: twice the same", book.festal(4, 1), 2);
    }

    private static void feastRank() {
        ChoirBook book = new ChoirBook();
        Check.due("17: at first", book.limit(1), 7);
        Check.due("17: then", book.limit(10), 1);
        Check.due("17: 0", book.limit(0), -1);
        Check.due("17: 11", book.limit(11), -1);
        Check.due("17: -1", book.limit(-1), -1);
        Check.due("17: as it was", book.limit(10), 10);
        // A Sunday of rank 3, day 6 of 2024.
        book.festal(0, 77);
        Check.due("19: none has rank 10", book.sung(2024, 6, 0, 0), 1);
        book.limit(4);
        Check.due("19: below", book.sung(2024, 6, 0, 0), 1);
        book.limit(3);
        Check.due("19: the rank itself", book.sung(2024, 6, 0, 0), 77);
        Check.due("19: a weekday", book.sung(2024, 7, 0, 0), 29);
        book.limit(1);
        Check.due("19: a weekday of rank 0", book.sung(2024, 7, 0, 0), 29);
    }

    private static void dealtByLeastLimit() {
        ChoirBook book = new ChoirBook();
        book.hours(1);
        for (int psalm = 8; psalm <= 150; psalm++) {
            book.fix(psalm, 0);
        }
        // Seven psalms for seven hours.
        int[] verses = {5, 9, 2, 2, 2, 8, 1};
        for (int i = 0; i < verses.length; i++) {
            book.verses(i + 1, verses[i]);
        }
        Check.due("18: limit", book.dealt(0, 0, 3), 9);
        int[] first = {1, 2, 3, 6, -1, -1, -1};
        int[] many = {1, 1, 3, 2, 0, 0, 0};
        int[] sums = {5, 9, 6, 9, 0, 0, 0};
        for (int weekday = 0; weekday < 7; weekday++) {
            Check.due("18: first of " + weekday, book.dealt(weekday, 0, 0), first[weekday]);
            Check.due("18: many of " + weekday, book.dealt(weekday, 0, 1), many[weekday]);
            Check.due("18: verses of " + weekday, book.dealt(weekday, 0, 2), sums[weekday]);
        }
        book.fix(3, 0);
        book.verses(2, 1);
        Check.due("18: now the eight is the greatest", book.dealt(0, 0, 3), 8);
        Check.due("18: past the fixed one", book.dealt(0, 0, 1), 4 - 1);
        Check.due("18: their verses", book.dealt(0, 0, 2), 5 + 1 + 2);
        Check.due("18: next", book.dealt(1, 0, 0), 5);
        // More psalms than hours, where the greatest psalm alone is too low a limit.
        ChoirBook week = new ChoirBook();
        week.hours(2);
        Check.due("18: 150 tens to 14 hours", week.dealt(0, 0, 3), 110);
        Check.due("18: Saturday's second", week.dealt(6, 1, 1), 150 - 13 * 11);
        Check.due("18: Saturday's second", week.dealt(6, 1, 2), 70);
        week.verses(1, 15);
        Check.due("18: one has five more", week.dealt(0, 0, 3), 110);
        Check.due("18: so it is one fewer", week.dealt(0, 0, 1), 10);
        Check.due("18: and 105 verses", week.dealt(0, 0, 2), 105);
    }

    private static void dealtWithoutPsalms() {
        ChoirBook book = new ChoirBook();
        for (int psalm = 1; psalm <= 150; psalm++) {
            book.fix(psalm, psalm % 7);
        }
        Check.due("18: none is dealt", book.dealt(0, 0, 3), 0);
        Check.due("18: no first", book.dealt(0, 0, 0), -1);
        Check.due("18: none", book.dealt(0, 0, 1), 0);
        Check.due("18: no verses", book.dealt(6, 6, 2), 0);
        Check.due("19: the fixed ones", book.sung(2024, 0, 0, 0), 7);
        Check.due("19: the last of them", book.sung(2024, 0, 0, 20), 147);
        Check.due("19: no more", book.sung(2024, 0, 0, 21), -1);
        Check.due("18: dealt again", book.fix(77, -1), 0);
        Check.due("18: alone", book.dealt(0, 0, 0), 77);
        Check.due("18: alone", book.dealt(0, 0, 3), 10);
    }

    private static void sungOnADay() {
        ChoirBook book = new ChoirBook();
        book.feast(0, 110, 7, 0, 2);
        book.fix(20, 0);
        book.fix(10, 0);
        book.fix(150, 1);
        book.fix(1, 1);
        book.festal(0, 90);
        book.festal(0, 20);
        book.festal(0, 50);
        // 10 January 2024 is a Wednesday: its first hour is the 22nd of the week.
        int[] festive = {90, 20, 50, 10, 20};
        for (int i = 0; i < festive.length; i++) {
            Check.due("19: festive " + i, book.sung(2024, 9, 0, i), festive[i]);
        }
        Check.due("19: no more", book.sung(2024, 9, 0, 5), -1);
        Check.due("19: an hour without festal ones", book.sung(2024, 9, 1, 0), book.dealt(3, 1, 0));
        Check.due("19: such an hour", book.sung(2024, 9, 1, 3), 1);
        Check.due("19: such an hour", book.sung(2024, 9, 1, 4), 150);
        Check.due("19: such an hour", book.sung(2024, 9, 1, 5), -1);
        book.raise(0, 6, 2);
        // 146 psalms come to 49 hours by threes; 63 of them and the fixed 1, 10 and 20 are ahead.
        Check.due("18: Wednesday's first", book.dealt(3, 0, 0), 67);
        int[] plain = {67, 68, 69, 10, 20};
        for (int i = 0; i < plain.length; i++) {
            Check.due("19: plain " + i, book.sung(2024, 9, 0, i), plain[i]);
        }
        Check.due("19: no more", book.sung(2024, 9, 0, 5), -1);
        Check.due("19: not below 0", book.sung(2024, 9, 0, -1), -1);
    }

    private static void sungInTimes() {
        ChoirBook book = new ChoirBook();
        // Day 6 of 2024 is a Sunday; psalm 1 is sung in its first hour.
        Check.due("20: one day", book.times(2024, 6, 6, 1), 1);
        Check.due("20: not on that", book.times(2024, 7, 12, 1), 0);
        Check.due("20: all Sundays", book.times(2024, 0, 365, 1), 52);
        Check.due("20: the year's end", book.times(2023, 364, 364, 1), 1);
        book.fix(1, 3);
        Check.due("20: each day", book.times(2024, 0, 365, 1), 366);
        book.feast(0, 107, 8, 0, 2);
        book.festal(0, 1);
        book.festal(0, 1);
        book.festal(1, 1);
        Check.due("20: with the festal ones", book.times(2024, 6, 6, 1), 4);
        Check.due("20: all", book.times(2024, 0, 365, 1), 369);
        Check.due("20: not dealt on that day", book.times(2024, 6, 6, 2), 0);
        Check.due("20: but on the next Sunday", book.times(2024, 6, 13, 2), 1);
        book.fix(1, -1);
        Check.due("20: festal alone", book.times(2024, 6, 6, 1), 3);
        int[][] wrong = {
            {1899, 0, 0, 1}, {2200, 0, 0, 1}, {2024, -1, 0, 1}, {2024, 0, 366, 1}, {2023, 0, 365, 1}, {2024, 0, 0, 0},
            {2024, 0, 0, 151}, {2024, 5, 4, 1}, {2024, Integer.MIN_VALUE, 0, 1}, {2024, 0, Integer.MAX_VALUE, 1}};
        for (int[] w : wrong) {
            Check.due("20: " + w[0] + " " + w[1] + " " + w[2] + " " + w[3], book.times(w[0], w[1], w[2], w[3]), -1);
        }
    }

    private static void refusedQuestions() {
        ChoirBook book = new ChoirBook();
        int[][] wrongDealt = {{-1, 0, 0}, {7, 0, 0}, {7, 0, 1}, {-1, 6, 1}, {0, -1, 0}, {0, 7, 0}, {0, 0, -1}, {0, 0, 4}, {0, Integer.MAX_VALUE, 1}};
        for (int[] w : wrongDealt) {
            Check.due("18: " + w[0] + " " + w[1] + " " + w[2], book.dealt(w[0], w[1], w[2]), -1);
        }
        Check.due("18: the others are not looked at", book.dealt(-5, 99, 3), 40);
        int[][] wrongSung = {{1899, 0, 0, 0}, {2200, 0, 0, 0}, {2024, -1, 0, 0}, {2024, 366, 0, 0}, {2024, 0, -1, 0},
            {2024, 0, 7, 0}, {2024, 0, 0, -1}, {2024, 0, 0, 4}, {2024, 0, 0, Integer.MAX_VALUE}};
        for (int[] w : wrongSung) {
            Check.due("19: " + w[0] + " " + w[1] + " " + w[2] + " " + w[3], book.sung(w[0], w[1], w[2], w[3]), -1);
        }
        book.hours(8);
        Check.due("18: the eighth hour", book.dealt(0, 7, 0), 22);
        book.hours(1);
        Check.due("18: one hour", book.dealt(0, 1, 0), -1);
        Check.due("18: seven hours a week", book.dealt(0, 0, 3), 220);
    }
}
