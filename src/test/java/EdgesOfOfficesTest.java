/** The boundaries of what is MOVED, COMMEMORATED and LET GO, and of promises 9 to 12: a test for each sentence. */
public final class EdgesOfOfficesTest {
    private static final int[] EXTREMES = {Integer.MIN_VALUE, Integer.MAX_VALUE};

    public static void main(String[] args) {
        movedIfOfWay2AndNotTheOffice();
        movedByRankThenDayThenNumber();
        movedToTheFirstOf60Days();
        movedInTheYear();
        movedToARankBelowItsOwn();
        movedToNoFeastOfWay2();
        itIsThatDaysOfficeThen();
        theOneThatWasIsAsOtherCandidates();
        lostIfThereIsNone();
        theFirstThreeOfWay1();
        feastsOfWay2AreNeitherCommemoratedNorLetGo();
        officeWhat0To5();
        officeOfNoSuchDay();
        alsoWhat0To2();
        alsoNoneWithoutIt();
        keptOnADay();
        keptNotOnADay();
        keptOfNoSuchFeast();
        tallyOfWhat0To2();
        tallyOfWhat3To6();
        tallyOfNoSuchWhat();
        Check.end("EdgesOfOfficesTest");
    }

    /** All weekdays of rank 8, all Sundays of rank 9, so that nothing is moved where no other season is told. */
    private static ChoirBook fullBook() {
        ChoirBook book = new ChoirBook();
        book.dated(101, 1231, 9, 8, 0);
        return book;
    }

    private static void movedIfOfWay2AndNotTheOffice() {
        Check.sentence("Terms", "FEASTS of WAY 2 that are not the OFFICE are MOVED, one by one");
        ChoirBook book = new ChoirBook();
        // 7 January 2024 is a Sunday of rank 3, day 6.
        book.feast(0, 107, 3, 0, 2);
        Check.due("the office stays", book.kept(2024, 0), 6);
        Check.due("nothing is moved", book.tally(2024, 3, 0), 0);
        book.raise(0, 2, 2);
        Check.due("it is moved", book.kept(2024, 0), 7);
        Check.due("one is moved", book.tally(2024, 3, 0), 1);
        for (int way = 0; way <= 1; way++) {
            book.raise(0, 2, way);
            Check.due("of way " + way + " it is not moved", book.kept(2024, 0), -3 + way);
            Check.due("none is moved", book.tally(2024, 3, 0), 0);
        }
        book.raise(0, 2, 2);
        book.feast(0, 107, 3, 0, 2);
        Check.due("the other one stays", book.kept(2024, 1), 6);
        Check.due("still one is moved", book.tally(2024, 3, 0), 1);
        Check.due("both are offices", book.tally(2024, 0, 2), 2);
    }

    private static void movedByRankThenDayThenNumber() {
        Check.sentence("Terms", "one by one: the greater RANK, then the earlier day, then the lower number first");
        ChoirBook book = fullBook();
        book.dated(108, 112, 1, 0, 0);
        // All give way to the days of rank 8 that they lie on.
        book.feast(0, 104, 3, 0, 2);
        book.feast(0, 104, 3, 0, 2);
        book.feast(0, 103, 3, 0, 2);
        book.feast(0, 105, 4, 0, 2);
        book.feast(0, 102, 2, 0, 2);
        int[] days = {9, 10, 8, 7, 11};
        for (int feast = 0; feast < days.length; feast++) {
            Check.due("feast " + feast, book.kept(2024, feast), days[feast]);
        }
    }

    private static void movedToTheFirstOf60Days() {
        Check.sentence("Terms", "to the first of the 60 days behind its own");
        ChoirBook book = fullBook();
        book.feast(0, 110, 7, 0, 2);
        Check.due("no day of a lower rank", book.kept(2024, 0), -4);
        // Its own is day 9: the sixtieth behind is day 69, 10 March, a Sunday.
        book.dated(311, 311, 1, 1, 0);
        Check.due("the sixty-first", book.kept(2024, 0), -4);
        book.dated(310, 310, 1, 1, 0);
        Check.due("the sixtieth", book.kept(2024, 0), 69);
        book.dated(309, 309, 1, 1, 0);
        Check.due("the fifty-ninth", book.kept(2024, 0), 68);
        book.dated(109, 109, 1, 1, 0);
        Check.due("none ahead of its own", book.kept(2024, 0), 68);
        book.dated(111, 111, 1, 1, 0);
        Check.due("the first", book.kept(2024, 0), 10);
        Check.due("its own day", book.office(2024, 10, 5), 9);
    }

    private static void movedInTheYear() {
        Check.sentence("Terms", "in the YEAR, whose OFFICE (as it is then)");
        int[][] years = {{2023, 364}, {2024, 365}};
        for (int[] y : years) {
            ChoirBook book = fullBook();
            book.feast(0, 1231, 5, 0, 2);
            book.feast(0, 1230, 5, 0, 2);
            Check.due("of the last day", book.kept(y[0], 0), -4);
            Check.due("of the day ahead", book.kept(y[0], 1), -4);
            book.dated(1231, 1231, 1, 1, 0);
            Check.due("the last day is its own", book.kept(y[0], 0), y[1]);
            Check.due("it is no day for another then", book.kept(y[0], 1), -4);
            book.raise(0, 4, 1);
            Check.due("the last day is the place of the other then", book.kept(y[0], 1), y[1]);
            Check.due("nothing in the next year", book.tally(y[0] + 1, 0, 2), book.tally(y[0], 0, 2));
        }
        ChoirBook book = new ChoirBook();
        book.feast(0, 1231, 5, 0, 2);
        book.feast(0, 1231, 4, 0, 2);
        Check.due("not to 1 January", book.kept(2024, 1), -4);
        Check.due("1 January 2025", book.office(2025, 0, 0), 0);
    }

    private static void movedToARankBelowItsOwn() {
        Check.sentence("Terms", "has a RANK below its own and is no FEAST of WAY 2");
        ChoirBook book = fullBook();
        book.feast(0, 110, 5, 0, 2);
        book.dated(112, 112, 1, 6, 0);
        book.dated(115, 115, 1, 5, 0);
        Check.due("neither 6 nor 5", book.kept(2024, 0), -4);
        book.dated(116, 116, 1, 4, 0);
        Check.due("but 4", book.kept(2024, 0), 15);
        // A Sunday of rank 5, and a feast and an octave of 5 and of 4.
        book.dated(111, 120, 5, 0, 0);
        book.feast(0, 111, 5, 0, 1);
        Check.due("a feast of 5 holds", book.kept(2024, 0), 11);
        book.raise(1, 4, 1);
        Check.due("a feast of 4 gives way", book.kept(2024, 0), 10);
        book.raise(1, 5, 1);
        book.around(1, 5, false);
        Check.due("an octave of 5 holds to its end", book.kept(2024, 0), 18);
        book.around(1, 4, false);
        Check.due("an octave of 4 gives way", book.kept(2024, 0), 11);
    }

    private static void movedToNoFeastOfWay2() {
        Check.sentence("Terms", "and is no FEAST of WAY 2");
        ChoirBook book = new ChoirBook();
        book.feast(0, 110, 9, 0, 2);
        book.feast(0, 110, 8, 0, 2);
        book.feast(0, 111, 1, 0, 2);
        Check.due("a feast of way 2 holds, of rank 1 too", book.kept(2024, 2), 10);
        Check.due("so it is the next day", book.kept(2024, 1), 11);
        book.raise(2, 1, 1);
        Check.due("of way 1 it gives way", book.kept(2024, 1), 10);
        Check.due("and is commemorated", book.kept(2024, 2), -2);
        book.raise(2, 1, 0);
        Check.due("of way 0 it gives way", book.kept(2024, 1), 10);
        Check.due("and is let go", book.kept(2024, 2), -3);
        // The octave and the vigil of a feast of way 2 are none.
        book.feast(0, 112, 8, 0, 2);
        book.around(3, 2, true);
        Check.due("a vigil gives way", book.kept(2024, 1), 10);
        book.feast(0, 112, 7, 0, 2);
        Check.due("an octave gives way", book.kept(2024, 4), 12);
    }

    private static void itIsThatDaysOfficeThen() {
        Check.sentence("Terms", "it is that day's OFFICE then");
        ChoirBook book = new ChoirBook();
        book.feast(0, 110, 9, 1, 2);
        book.feast(0, 110, 7, 5, 2);
        int[] due = {2, 1, 7, 5, 0, 9};
        for (int what = 0; what <= 5; what++) {
            Check.due("what " + what, book.office(2024, 10, what), due[what]);
        }
        // A lower one that is moved later finds it there.
        book.feast(0, 110, 6, 0, 2);
        Check.due("so another goes past it", book.kept(2024, 2), 11);
        book.festal(0, 150);
        Check.due("festal psalms go by it", book.sung(2024, 10, 0, 0), 150);
        book.roster(2024, 10, 1);
        Check.due("roles go by it", book.turn(0, 1, 3), -2);
    }

    private static void theOneThatWasIsAsOtherCandidates() {
        Check.sentence("Terms", "(the one that was is as other CANDIDATES)");
        ChoirBook book = new ChoirBook();
        book.dated(111, 111, 1, 1, 0);
        book.feast(0, 110, 9, 0, 2);
        book.feast(0, 110, 8, 0, 2);
        Check.due("the weekday of rank 1 that was", book.also(2024, 10, 0, 0), 0);
        Check.due("it alone", book.office(2024, 10, 4), 1);
        book.feast(0, 111, 3, 0, 1);
        Check.due("the feast that was", book.also(2024, 10, 0, 1), 2);
        Check.due("is commemorated", book.kept(2024, 2), -2);
        Check.due("with the weekday", book.also(2024, 10, 1, 0), 0);
        book.raise(2, 3, 0);
        Check.due("of way 0 it is let go", book.kept(2024, 2), -3);
        Check.due("the weekday alone", book.office(2024, 10, 4), 1);
    }

    private static void lostIfThereIsNone() {
        Check.sentence("Terms", "if there is none, it is LOST.");
        ChoirBook book = new ChoirBook();
        // Sixty feasts of one day: one stays, 59 follow on the days behind it.
        for (int i = 0; i < 60; i++) {
            book.feast(0, 102, 9, 0, 2);
        }
        Check.due("59 moved", book.tally(2024, 3, 0), 59);
        Check.due("none lost", book.tally(2024, 4, 0), 0);
        Check.due("the last one", book.kept(2024, 59), 1 + 59);
        book.raise(59, 3, 2);
        // Sundays are of rank 3: eight of them lie in the days 1 to 60, but each is a feast's.
        Check.due("rank 3 finds the sixtieth", book.kept(2024, 59), 60);
        book.dated(101, 1231, 9, 8, 0);
        Check.due("of rank 3 it is lost", book.kept(2024, 59), -4);
        // The eight Sundays hold against rank 9, so there are 52 days for the other 58.
        Check.due("seven lost", book.tally(2024, 4, 0), 7);
        Check.due("the lost ones are not moved", book.tally(2024, 3, 0), 52);
        Check.due("the last that is moved", book.kept(2024, 52), 61);
        Check.due("the first that is lost", book.kept(2024, 53), -4);
    }

    private static void theFirstThreeOfWay1() {
        Check.sentence("Terms", "the first three of WAY 1 in ORDER are COMMEMORATED, all others LET GO.");
        ChoirBook book = new ChoirBook();
        book.feast(0, 110, 9, 0, 2);
        int[] ranks = {3, 5, 4};
        for (int i = 0; i < 3; i++) {
            book.feast(0, 110, ranks[i], 0, 1);
            Check.due("of " + (i + 1), book.office(2024, 9, 4), i + 1);
        }
        book.feast(0, 110, 8, 0, 0);
        Check.due("one of way 0 beside", book.office(2024, 9, 4), 3);
        Check.due("it is let go", book.kept(2024, 4), -3);
        int[] order = {2, 3, 1};
        for (int i = 0; i < 3; i++) {
            Check.due("in order, " + i, book.also(2024, 9, i, 1), order[i]);
        }
        book.feast(0, 110, 3, 0, 1);
        Check.due("a fourth of the rank of the third", book.kept(2024, 5), -3);
        Check.due("it does not go to the next day", book.office(2024, 10, 4), 0);
        Check.due("the third stays", book.kept(2024, 1), -2);
        book.raise(5, 4, 1);
        Check.due("a fourth of a greater rank", book.kept(2024, 5), -2);
        Check.due("lets the last one go", book.kept(2024, 1), -3);
        Check.due("three still", book.office(2024, 9, 4), 3);
        Check.due("commemorated in the year", book.tally(2024, 5, 0), 3);
        Check.due("let go in the year", book.tally(2024, 6, 0), 2);
    }

    private static void feastsOfWay2AreNeitherCommemoratedNorLetGo() {
        Check.sentence("Terms", "In the end the CANDIDATES of a day that are not its OFFICE (nor FEASTS of WAY 2)");
        ChoirBook book = fullBook();
        book.feast(0, 110, 5, 0, 2);
        Check.due("the weekday is the office", book.office(2024, 9, 0), 0);
        Check.due("nothing commemorated", book.office(2024, 9, 4), 0);
        Check.due("the feast is lost", book.kept(2024, 0), -4);
        Check.due("none commemorated", book.tally(2024, 5, 0), 0);
        Check.due("none let go", book.tally(2024, 6, 0), 0);
        book.raise(0, 5, 1);
        Check.due("of way 1 it is commemorated", book.office(2024, 9, 4), 1);
    }

    private static void officeWhat0To5() {
        Check.sentence("Promise 9", "Of the OFFICE of a day what 0 KIND, 1 FEAST (NONE), 2 RANK, 3 colour, 4 how many are COMMEMORATED, 5 its own day (of one that was MOVED; else this one).");
        ChoirBook book = new ChoirBook();
        book.feast(0, 107, 2, 6, 2);
        book.feast(0, 108, 1, 0, 1);
        int[] moved = {2, 0, 2, 6, 1, 6};
        int[] sunday = {1, -1, 3, 0, 0, 6};
        int[] weekday = {0, -1, 0, 0, 0, 8};
        for (int what = 0; what <= 5; what++) {
            Check.due("of a moved feast what " + what, book.office(2024, 7, what), moved[what]);
            Check.due("of the Sunday what " + what, book.office(2024, 6, what), sunday[what]);
            Check.due("of a weekday what " + what, book.office(2024, 8, what), weekday[what]);
        }
        book.around(0, 1, true);
        Check.due("of a vigil its day", book.office(2024, 5, 5), 5);
        Check.due("of an octave its day", book.office(2024, 8, 5), 8);
        Check.due("of the octave's last its day", book.office(2024, 12, 5), 12);
        book.raise(0, 4, 2);
        Check.due("of a feast that stays its day", book.office(2024, 6, 5), 6);
        int[] wrong = {-1, 6, EXTREMES[0], EXTREMES[1]};
        for (int what : wrong) {
            Check.refused("what " + what, book.office(2024, 7, what));
        }
    }

    private static void officeOfNoSuchDay() {
        Check.sentence("Promise 9", "NONE: no such YEAR, day, what.");
        ChoirBook book = new ChoirBook();
        int[][] wrong = {{1899, 0}, {2200, 0}, {2024, -1}, {2024, 366}, {2023, 365}, {1900, 365}, {2100, 365}};
        for (int what = 0; what <= 5; what++) {
            for (int[] w : wrong) {
                Check.refused("what " + what + " of day " + w[1] + " of " + w[0], book.office(w[0], w[1], what));
            }
        }
        Check.due("the last of 2024", book.office(2024, 365, 5), 365);
        Check.due("the last of 2023", book.office(2023, 364, 5), 364);
        Check.due("the first", book.office(2023, 0, 5), 0);
    }

    private static void alsoWhat0To2() {
        Check.sentence("Promise 10", "Of what is COMMEMORATED (i 0 .. 2, in ORDER) on a day what 0 KIND, 1 FEAST (NONE), 2 RANK.");
        ChoirBook book = new ChoirBook();
        book.feast(0, 114, 9, 0, 2);
        book.feast(0, 114, 5, 0, 1);
        book.feast(0, 113, 9, 0, 2);
        book.around(2, 4, false);
        int[][] due = {{2, 1, 5}, {3, 2, 4}, {1, -1, 3}};
        for (int i = 0; i < 3; i++) {
            for (int what = 0; what <= 2; what++) {
                Check.due("i " + i + " what " + what, book.also(2024, 13, i, what), due[i][what]);
            }
            int[] wrong = {-1, 3, 4, 5, EXTREMES[0], EXTREMES[1]};
            for (int what : wrong) {
                Check.refused("i " + i + " what " + what, book.also(2024, 13, i, what));
            }
        }
    }

    private static void alsoNoneWithoutIt() {
        Check.sentence("Promise 10", "NONE without it.");
        ChoirBook book = new ChoirBook();
        book.feast(0, 1231, 9, 0, 2);
        for (int i = 0; i < 4; i++) {
            book.feast(0, 1231, 5, 0, 1);
            Check.due("the " + i + "-th", book.also(2024, 365, i, 1), i < 3 ? i + 1 : -1);
            Check.refused("none behind it", book.also(2024, 365, i + 1, 1));
        }
        int[] wrong = {-1, 3, 4, EXTREMES[0], EXTREMES[1]};
        for (int i : wrong) {
            Check.refused("i " + i, book.also(2024, 365, i, 1));
        }
        int[][] days = {{1899, 0}, {2200, 0}, {2024, -1}, {2024, 366}, {2023, 365}, {2024, 364}};
        for (int[] d : days) {
            Check.refused("day " + d[1] + " of " + d[0], book.also(d[0], d[1], 0, 1));
        }
        Check.due("the last of 2023", book.also(2023, 364, 0, 1), 1);
        noneOfTheDaysBeside();
    }

    private static void noneOfTheDaysBeside() {
        ChoirBook book = new ChoirBook();
        for (int date = 102; date <= 104; date++) {
            for (int i = 0; i < 4; i++) {
                book.feast(0, date, 9, 0, 1);
            }
        }
        int[] wrong = {-2, -1, 3, 4};
        for (int i : wrong) {
            Check.refused("i " + i + " between full days", book.also(2024, 2, i, 1));
        }
        Check.due("the third between full days", book.also(2024, 2, 2, 1), 7);
    }

    private static void keptOnADay() {
        Check.sentence("Promise 11", "The day on which a FEAST is the OFFICE in a YEAR");
        ChoirBook book = new ChoirBook();
        book.feast(0, 101, 9, 0, 0);
        book.feast(0, 1231, 9, 0, 1);
        book.feast(0, 101, 8, 0, 2);
        Check.due("day 0", book.kept(2024, 0), 0);
        Check.due("the last of 2024", book.kept(2024, 1), 365);
        Check.due("the last of 2023", book.kept(2023, 1), 364);
        Check.due("moved to day 1", book.kept(2024, 2), 1);
    }

    private static void keptNotOnADay() {
        Check.sentence("Promise 11", "-2 it is COMMEMORATED on its day, -3 LET GO, -4 LOST, -5 not in this YEAR; NONE.");
        ChoirBook book = new ChoirBook();
        book.feast(0, 1231, 9, 0, 0);
        book.feast(0, 1231, 8, 0, 1);
        book.feast(0, 1231, 8, 0, 0);
        book.feast(0, 1231, 8, 0, 2);
        book.feast(0, 229, 8, 0, 2);
        int[] due = {365, -2, -3, -4, 59};
        for (int feast = 0; feast < due.length; feast++) {
            Check.due("feast " + feast + " in 2024", book.kept(2024, feast), due[feast]);
            Check.due("feast " + feast + " in 2023", book.kept(2023, feast), feast == 0 ? 364 : feast == 4 ? -5 : due[feast]);
        }
    }

    private static void keptOfNoSuchFeast() {
        Check.sentence("Promise 11", "-5 not in this YEAR; NONE.");
        ChoirBook book = new ChoirBook();
        Check.refused("none is told", book.kept(2024, 0));
        book.feast(0, 229, 8, 0, 2);
        int[] wrong = {-1, 1, 59, 60, EXTREMES[0], EXTREMES[1]};
        for (int feast : wrong) {
            Check.refused("feast " + feast, book.kept(2024, feast));
        }
        int[] years = {1899, 2200, EXTREMES[0], EXTREMES[1]};
        for (int year : years) {
            Check.refused("year " + year, book.kept(year, 0));
        }
        Check.due("1900 is a year without its day", book.kept(1900, 0), -5);
    }

    private static void tallyOfWhat0To2() {
        Check.sentence("Promise 12", "How many days of a YEAR have an OFFICE of this KIND (what 0), RANK (1), colour (2)");
        ChoirBook book = new ChoirBook();
        Check.due("weekdays of 2023", book.tally(2023, 0, 0), 365 - 53);
        Check.due("Sundays of 2023", book.tally(2023, 0, 1), 53);
        Check.due("rank 0 in 2024", book.tally(2024, 1, 0), 366 - 52);
        Check.due("rank 3 in 2024", book.tally(2024, 1, 3), 52);
        Check.due("colour 0 in 2024", book.tally(2024, 2, 0), 366);
        int[] none = {-1, -2, 5, 8, 9, 10, EXTREMES[0], EXTREMES[1]};
        for (int what = 0; what <= 2; what++) {
            for (int v : none) {
                Check.due("what " + what + " of " + v, book.tally(2024, what, v), 0);
            }
        }
        book.feast(0, 101, 9, 7, 2);
        book.feast(0, 1231, 9, 7, 2);
        Check.due("the first and the last day by kind", book.tally(2024, 0, 2), 2);
        Check.due("by rank", book.tally(2024, 1, 9), 2);
        Check.due("by colour", book.tally(2023, 2, 7), 2);
        book.around(1, 0, true);
        Check.due("a vigil", book.tally(2024, 0, 4), 1);
        book.around(0, 1, false);
        // One of its seven days is a Sunday, in 2024 the sixth.
        Check.due("an octave", book.tally(2024, 0, 3), 6);
    }

    private static void tallyOfWhat3To6() {
        Check.sentence("Promise 12", "how many FEASTS are MOVED (3), LOST (4), COMMEMORATED (5), LET GO (6) (v is 0 then). NONE.");
        ChoirBook book = new ChoirBook();
        for (int what = 3; what <= 6; what++) {
            Check.due("none by what " + what, book.tally(2024, what, 0), 0);
        }
        book.feast(0, 1230, 9, 0, 0);
        int[] ways = {2, 2, 2, 1, 1, 1, 1, 0};
        for (int way : ways) {
            book.feast(0, 1230, 5, 0, way);
        }
        book.feast(0, 229, 5, 0, 1);
        // One is moved to 31 December; of way 1 the fourth is let go, with that of way 0.
        int[] due = {1, 2, 3, 2};
        for (int what = 3; what <= 6; what++) {
            Check.due("what " + what, book.tally(2024, what, 0), due[what - 3]);
            Check.due("what " + what + " in 2023", book.tally(2023, what, 0), due[what - 3]);
            int[] wrong = {1, -1, 2, 9, EXTREMES[0], EXTREMES[1]};
            for (int v : wrong) {
                Check.refused("what " + what + " of " + v, book.tally(2024, what, v));
            }
        }
        // Of the first feast and the last one.
        ChoirBook ends = new ChoirBook();
        ends.feast(0, 1231, 5, 0, 2);
        ends.feast(0, 1231, 9, 0, 2);
        ends.feast(0, 1231, 5, 0, 2);
        int[][] byWay = {{0, 0, 0, 2}, {0, 0, 2, 0}, {0, 2, 0, 0}};
        for (int way = 2; way >= 0; way--) {
            ends.raise(0, 5, way);
            ends.raise(2, 5, way);
            for (int what = 3; what <= 6; what++) {
                Check.due("of way " + way + " what " + what, ends.tally(2024, what, 0), byWay[way][what - 3]);
            }
        }
        // An octave that is commemorated is no feast.
        ChoirBook octave = new ChoirBook();
        octave.feast(0, 1229, 9, 0, 0);
        octave.around(0, 5, false);
        octave.feast(0, 1230, 9, 0, 0);
        Check.due("an octave in part", octave.office(2024, 364, 4), 1);
        Check.due("is no feast", octave.tally(2024, 5, 0), 0);
    }

    private static void tallyOfNoSuchWhat() {
        Check.sentence("Promise 12", "(v is 0 then). NONE.");
        ChoirBook book = new ChoirBook();
        int[] wrong = {-1, 7, 8, EXTREMES[0], EXTREMES[1]};
        for (int what : wrong) {
            Check.refused("what " + what, book.tally(2024, what, 0));
        }
        int[] years = {1899, 2200, EXTREMES[0], EXTREMES[1]};
        for (int what = 0; what <= 6; what++) {
            for (int year : years) {
                Check.refused("what " + what + " of " + year, book.tally(year, what, 0));
            }
        }
    }
}
