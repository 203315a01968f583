/** The boundaries of Terms V and of promises 28 to 32: a test for each sentence. */
public final class EdgesOfMonksTest {
    private static final int[] EXTREMES = {Integer.MIN_VALUE, Integer.MAX_VALUE};

    public static void main(String[] args) {
        monks0To23();
        monkTheNumber();
        bits0To7();
        absencesAtMost60();
        absenceFromADayToADay();
        absenceOfNoSuchMonkYearOrDays();
        rosterOf1To60Days();
        rosterInTheYear();
        rosterTellsHowManyStayOpen();
        oneOfficiant();
        cantorsByRank();
        readersByRank();
        whoIsThereCanAndHasNoRoleYet();
        leastOftenInThisRoster();
        latestDayTheEarliest();
        ofThoseTheOldest();
        openIfThereIsNone();
        turnOnADayOfTheLatestRoster();
        turnOfNoSuchRole();
        hadHowOften();
        hadWithoutRosterMonkOrRole();
        Check.end("EdgesOfMonksTest");
    }

    private static ChoirBook bookWith(int... cans) {
        ChoirBook book = new ChoirBook();
        for (int can : cans) {
            book.monk(can);
        }
        return book;
    }

    private static void monks0To23() {
        Check.sentence("Terms", "MONKS 0 .. 23, by age");
        ChoirBook book = new ChoirBook();
        for (int i = 0; i < 24; i++) {
            Check.due("monk " + i, book.monk(i < 22 ? 0 : 1), i);
        }
        Check.refused("no twenty-fifth", book.monk(1));
        Check.due("monk 23 may be absent", book.absence(23, 2024, 3, 3), 1);
        Check.refused("monk 24 may not", book.absence(24, 2024, 3, 3));
        book.roster(2024, 0, 4);
        int[] due = {22, 23, 22, 22};
        for (int k = 0; k < due.length; k++) {
            Check.due("the older one first, day " + k, book.turn(k, 0, 0), due[k]);
        }
        Check.due("monk 23 had it once", book.had(23, 0), 1);
        Check.refused("monk 24 is none", book.had(24, 0));
        Check.refused("monk -1 is none", book.had(-1, 0));
    }

    private static void monkTheNumber() {
        Check.sentence("Promise 28", "One more MONK, who can be what these bits tell (0 .. 7): the number; NONE (24).");
        ChoirBook book = new ChoirBook();
        for (int i = 0; i < 24; i++) {
            Check.refused("bits 8, with " + i, book.monk(8));
            Check.refused("bits -1, with " + i, book.monk(-1));
            Check.due("monk " + i, book.monk(i % 8), i);
        }
        Check.refused("24", book.monk(0));
        Check.refused("again", book.monk(7));
    }

    private static void bits0To7() {
        Check.sentence("Terms", "they can be 1 officiant, 2 cantor, 4 reader (together)");
        for (int can = 0; can <= 7; can++) {
            ChoirBook book = new ChoirBook();
            Check.due("can " + can, book.monk(can), 0);
            // Three of the same kind, so that each takes one role if he can.
            book.monk(can);
            book.monk(can);
            book.roster(2024, 0, 1);
            for (int role = 0; role <= 2; role++) {
                boolean isOpen = book.turn(0, role, 0) == -2;
                Check.due("can " + can + ", role " + role, isOpen ? 0 : 1, can >> role & 1);
            }
        }
        ChoirBook book = new ChoirBook();
        int[] wrong = {-1, 8, 9, 16, EXTREMES[0], EXTREMES[1]};
        for (int can : wrong) {
            Check.refused("can " + can, book.monk(can));
        }
        Check.due("none was told by these", book.monk(7), 0);
    }

    private static void absencesAtMost60() {
        Check.sentence("Terms", "ABSENCES, at most 60: a MONK in a YEAR from a day to a day");
        ChoirBook book = bookWith(1, 1);
        for (int i = 1; i <= 60; i++) {
            Check.due("absence " + i, book.absence(0, 2024, i - 1, i - 1), i);
        }
        Check.refused("a sixty-first", book.absence(0, 2024, 60, 60));
        Check.refused("of the other", book.absence(1, 2024, 0, 0));
        book.roster(2024, 50, 12);
        Check.due("the sixtieth holds", book.turn(9, 0, 0), 1);
        Check.due("the sixty-first does not", book.turn(10, 0, 0), 0);
    }

    private static void absenceFromADayToADay() {
        Check.sentence("Promise 29", "An ABSENCE: how many there are; NONE: no such MONK, YEAR, days (to the YEAR's end), or 60.");
        ChoirBook book = bookWith(1);
        Check.due("three days", book.absence(0, 2024, 2, 4), 1);
        Check.due("one day", book.absence(0, 2024, 6, 6), 2);
        Check.due("of another year", book.absence(0, 2023, 0, 364), 3);
        Check.due("overlapping", book.absence(0, 2024, 4, 4), 4);
        Check.due("to the year's end", book.absence(0, 2024, 300, 365), 5);
        book.roster(2024, 0, 8);
        int[] due = {0, 0, -2, -2, -2, 0, -2, 0};
        for (int k = 0; k < due.length; k++) {
            Check.due("day " + k, book.turn(k, 0, 0), due[k]);
        }
        book.roster(2024, 299, 60);
        Check.due("day 299", book.turn(0, 0, 0), 0);
        Check.due("day 300", book.turn(1, 0, 0), -2);
        book.roster(2024, 365, 1);
        Check.due("the last day", book.turn(0, 0, 0), -2);
        book.roster(2025, 0, 1);
        Check.due("1 January 2025", book.turn(0, 0, 0), 0);
        book.roster(2023, 364, 1);
        Check.due("the last of 2023", book.turn(0, 0, 0), -2);
        book.roster(2023, 0, 1);
        Check.due("1 January 2023", book.turn(0, 0, 0), -2);
    }

    private static void absenceOfNoSuchMonkYearOrDays() {
        Check.sentence("Promise 29", "NONE: no such MONK, YEAR, days (to the YEAR's end), or 60.");
        ChoirBook book = new ChoirBook();
        Check.refused("no monk yet", book.absence(0, 2024, 0, 0));
        book.monk(1);
        int[][] wrong = {
            {-1, 2024, 0, 0}, {1, 2024, 0, 0}, {23, 2024, 0, 0}, {24, 2024, 0, 0}, {0, 1899, 0, 0}, {0, 2200, 0, 0},
            {0, 2024, -1, 0}, {0, 2024, 0, 366}, {0, 2024, 366, 366}, {0, 2023, 0, 365}, {0, 2023, 365, 365},
            {0, 2024, 1, 0}, {0, 2024, 365, 0}, {EXTREMES[0], 2024, 0, 0}, {EXTREMES[1], 2024, 0, 0},
            {0, 2024, EXTREMES[0], 5}, {0, 2024, 5, EXTREMES[1]}, {0, 2024, 5, EXTREMES[0]}, {0, 2024, EXTREMES[1], 5}};
        for (int[] w : wrong) {
            Check.refused(w[0] + " in " + w[1] + " from " + w[2] + " to " + w[3], book.absence(w[0], w[1], w[2], w[3]));
        }
        Check.due("the first that is told", book.absence(0, 2024, 0, 365), 1);
        Check.due("the first and the last year", book.absence(0, 1900, 0, 364) + book.absence(0, 2199, 364, 364), 2 + 3);
    }

    private static void rosterOf1To60Days() {
        Check.sentence("Terms", "A ROSTER of a YEAR, from a day on, 1 .. 60 days (in it)");
        ChoirBook book = bookWith(1);
        int[] wrong = {0, 61, -1, EXTREMES[0], EXTREMES[1]};
        for (int days : wrong) {
            Check.refused("of " + days + " days", book.roster(2024, 0, days));
            Check.refused("of " + days + " days within the year", book.roster(2024, 100, days));
        }
        Check.refused("none was made", book.turn(0, 0, 0));
        Check.due("one day", book.roster(2024, 0, 1), 2);
        Check.due("the first day", book.turn(0, 0, 0), 0);
        Check.refused("no second day", book.turn(1, 0, 0));
        // In 60 days from a Monday there are eight Sundays of rank 3, with three readers.
        Check.due("60 days", book.roster(2024, 0, 60), 60 * 2 + 8 * 2);
        Check.due("the sixtieth day", book.turn(59, 0, 0), 0);
        Check.refused("no sixty-first day", book.turn(60, 0, 0));
        Check.due("60 turns", book.had(0, 0), 60);
    }

    private static void rosterInTheYear() {
        Check.sentence("Promise 30", "A ROSTER is made: how many ROLES stay OPEN; NONE.");
        int[][] years = {{2023, 365}, {2024, 366}};
        for (int[] y : years) {
            ChoirBook book = bookWith(1);
            Check.refused("from behind the last", book.roster(y[0], y[1], 1));
            Check.refused("from ahead of the first", book.roster(y[0], -1, 1));
            Check.refused("two from the last on", book.roster(y[0], y[1] - 1, 2));
            Check.refused("60 that end behind the last", book.roster(y[0], y[1] - 59, 60));
            Check.refused("none was made", book.had(0, 0));
            book.roster(y[0], y[1] - 1, 1);
            Check.due("the last alone", book.had(0, 0), 1);
            book.roster(y[0], y[1] - 2, 2);
            Check.due("the last two", book.had(0, 0), 2);
            book.roster(y[0], y[1] - 60, 60);
            Check.due("60 to the last", book.had(0, 0), 60);
            book.roster(y[0], 0, 1);
            Check.due("the first alone", book.had(0, 0), 1);
        }
        ChoirBook book = bookWith(1);
        int[][] wrong = {{1899, 0}, {2200, 0}, {2024, EXTREMES[0]}, {2024, EXTREMES[1]}, {EXTREMES[0], 0}, {EXTREMES[1], 0}};
        for (int[] w : wrong) {
            Check.refused("from " + w[1] + " of " + w[0], book.roster(w[0], w[1], 60));
        }
    }

    private static void rosterTellsHowManyStayOpen() {
        Check.sentence("Promise 30", "how many ROLES stay OPEN");
        ChoirBook book = new ChoirBook();
        Check.due("without a monk", book.roster(2024, 0, 1), 3);
        int[] cans = {1, 2, 4};
        for (int i = 0; i < 3; i++) {
            book.monk(cans[i]);
            Check.due("with " + (i + 1), book.roster(2024, 0, 1), 2 - i);
        }
        Check.due("a Sunday of rank 3 has two readers more", book.roster(2024, 6, 1), 2);
        book.feast(0, 107, 9, 0, 2);
        Check.due("a feast of rank 9 has eleven roles", book.roster(2024, 6, 1), 8);
        for (int i = 0; i < 8; i++) {
            book.monk(7);
        }
        Check.due("none of eleven", book.roster(2024, 6, 1), 0);
    }

    /** Days 0 to 9 of 2024 are of the ranks 0 to 9. */
    private static ChoirBook rankedBook() {
        ChoirBook book = new ChoirBook();
        book.season(-120, 250, 1, 0, 0);
        for (int rank = 1; rank <= 9; rank++) {
            book.feast(0, 101 + rank, rank, 0, 2);
        }
        return book;
    }

    private static void oneOfficiant() {
        Check.sentence("Terms", "each day in order, ROLES in this order: one OFFICIANT;");
        ChoirBook book = rankedBook();
        book.roster(2024, 0, 10);
        for (int rank = 0; rank <= 9; rank++) {
            Check.due("one of rank " + rank, book.turn(rank, 0, 0), -2);
            Check.refused("no second of rank " + rank, book.turn(rank, 0, 1));
        }
    }

    private static void cantorsByRank() {
        Check.sentence("Terms", "CANTORS: 1, from RANK 4 on 2, from 7 on 4;");
        int[] many = {1, 1, 1, 1, 2, 2, 2, 4, 4, 4};
        ChoirBook book = rankedBook();
        book.roster(2024, 0, 10);
        for (int rank = 0; rank <= 9; rank++) {
            Check.due("the last of rank " + rank, book.turn(rank, 1, many[rank] - 1), -2);
            Check.refused("no more of rank " + rank, book.turn(rank, 1, many[rank]));
        }
    }

    private static void readersByRank() {
        Check.sentence("Terms", "READERS: 1, from 3 on 3, from 6 on 6 (RANK of the OFFICE).");
        int[] many = {1, 1, 1, 3, 3, 3, 6, 6, 6, 6};
        ChoirBook book = rankedBook();
        book.roster(2024, 0, 10);
        for (int rank = 0; rank <= 9; rank++) {
            Check.due("the last of rank " + rank, book.turn(rank, 2, many[rank] - 1), -2);
            Check.refused("no more of rank " + rank, book.turn(rank, 2, many[rank]));
        }
        // Told later, a rank does not change the roster that is made.
        book.raise(0, 9, 2);
        Check.refused("as it was made", book.turn(1, 2, 1));
        book.roster(2024, 1, 1);
        Check.due("made anew", book.turn(0, 2, 5), -2);
    }

    private static void whoIsThereCanAndHasNoRoleYet() {
        Check.sentence("Terms", "Each goes to the MONK who is there, can, and has no ROLE on that day yet");
        ChoirBook book = bookWith(7, 7, 7, 6);
        book.absence(0, 2024, 0, 0);
        book.absence(3, 2024, 1, 1);
        Check.due("none open", book.roster(2024, 0, 2), 0);
        int[][] due = {{1, 2, 3}, {0, 1, 2}};
        for (int k = 0; k < 2; k++) {
            for (int role = 0; role < 3; role++) {
                Check.due("role " + role + " of day " + k, book.turn(k, role, 0), due[k][role]);
            }
        }
        ChoirBook one = bookWith(7);
        Check.due("one monk has one role", one.roster(2024, 0, 1), 2);
        Check.due("the first", one.turn(0, 0, 0), 0);
        Check.due("not the second", one.turn(0, 1, 0), -2);
        Check.due("not the third", one.turn(0, 2, 0), -2);
        Check.due("on the next day too", one.roster(2024, 0, 2), 4);
        Check.due("one a day", one.had(0, 0) + one.had(0, 1) + one.had(0, 2), 2);
        ChoirBook readers = bookWith(4, 4);
        readers.roster(2024, 6, 1);
        Check.due("the first reader", readers.turn(0, 2, 0), 0);
        Check.due("the second reader", readers.turn(0, 2, 1), 1);
        Check.due("none twice", readers.turn(0, 2, 2), -2);
    }

    private static void leastOftenInThisRoster() {
        Check.sentence("Terms", "of these who had the ROLE least often in this ROSTER");
        ChoirBook book = bookWith(1, 1);
        // Monk 1 is away for three days; then he has it until both had it three times.
        book.absence(1, 2024, 0, 2);
        book.roster(2024, 0, 8);
        int[] due = {0, 0, 0, 1, 1, 1, 0, 1};
        for (int k = 0; k < due.length; k++) {
            Check.due("day " + k, book.turn(k, 0, 0), due[k]);
        }
        book.roster(2024, 8, 1);
        Check.due("another roster begins anew", book.turn(0, 0, 0), 0);
        // The other roles are not counted.
        ChoirBook roles = bookWith(3, 1, 2);
        roles.absence(1, 2024, 0, 0);
        roles.absence(2, 2024, 1, 1);
        roles.roster(2024, 0, 3);
        Check.due("officiant of day 0", roles.turn(0, 0, 0), 0);
        Check.due("cantor of day 1", roles.turn(1, 1, 0), 0);
        Check.due("officiant of day 1", roles.turn(1, 0, 0), 1);
        Check.due("officiant of day 2", roles.turn(2, 0, 0), 0);
    }

    private static void latestDayTheEarliest() {
        Check.sentence("Terms", "of those whose latest day with it is the earliest (never at first)");
        ChoirBook book = bookWith(1, 1, 1);
        book.absence(0, 2024, 0, 1);
        // 1, 2 and 0 have it once in this order, and keep to it.
        book.roster(2024, 0, 6);
        int[] due = {1, 2, 0, 1, 2, 0};
        for (int k = 0; k < due.length; k++) {
            Check.due("day " + k, book.turn(k, 0, 0), due[k]);
        }
        ChoirBook last = new ChoirBook();
        for (int i = 0; i < 24; i++) {
            last.monk(i < 21 ? 6 : 1);
        }
        last.absence(21, 2024, 0, 1);
        last.roster(2024, 0, 6);
        for (int k = 0; k < due.length; k++) {
            Check.due("of the last three monks, day " + k, last.turn(k, 0, 0), 21 + due[k]);
        }
        neverAtFirst();
        ChoirBook same = bookWith(4, 4, 4, 4);
        same.absence(0, 2024, 6, 6);
        // On the Sunday 1, 2 and 3 read, on the next day 0; then all had it once, and 1 to 3 earlier.
        same.roster(2024, 6, 5);
        int[] readers = {1, 0, 1, 2, 3};
        for (int k = 0; k < readers.length; k++) {
            Check.due("reader of day " + k, same.turn(k, 2, 0), readers[k]);
        }
    }

    private static void neverAtFirst() {
        ChoirBook book = bookWith(1, 1);
        book.roster(2024, 0, 3);
        Check.due("monk 0 had it on the third day", book.turn(2, 0, 0), 0);
        book.roster(2024, 3, 1);
        Check.due("but never in the next roster, as monk 1", book.turn(0, 0, 0), 0);
    }

    private static void ofThoseTheOldest() {
        Check.sentence("Terms", "of those the oldest");
        ChoirBook book = new ChoirBook();
        for (int i = 0; i < 24; i++) {
            book.monk(7);
        }
        book.feast(0, 102, 9, 0, 2);
        book.roster(2024, 1, 1);
        Check.due("officiant", book.turn(0, 0, 0), 0);
        for (int i = 0; i < 4; i++) {
            Check.due("cantor " + i, book.turn(0, 1, i), 1 + i);
        }
        for (int i = 0; i < 6; i++) {
            Check.due("reader " + i, book.turn(0, 2, i), 5 + i);
        }
        // Two such days: none of the first one's had his role then, so others have it on the second.
        book.feast(0, 103, 9, 0, 2);
        book.roster(2024, 1, 2);
        for (int i = 0; i < 4; i++) {
            Check.due("cantor " + i + " of the first day", book.turn(0, 1, i), 1 + i);
        }
        for (int i = 0; i < 6; i++) {
            Check.due("reader " + i + " of the first day", book.turn(0, 2, i), 5 + i);
        }
        Check.due("officiant of the second day", book.turn(1, 0, 0), 1);
        int[] cantors = {0, 5, 6, 7};
        for (int i = 0; i < 4; i++) {
            Check.due("cantor " + i + " of the second day", book.turn(1, 1, i), cantors[i]);
        }
        int[] readers = {2, 3, 4, 11, 12, 13};
        for (int i = 0; i < 6; i++) {
            Check.due("reader " + i + " of the second day", book.turn(1, 2, i), readers[i]);
        }
    }

    private static void openIfThereIsNone() {
        Check.sentence("Terms", "If there is none, it stays OPEN.");
        ChoirBook book = bookWith(1, 4);
        book.absence(0, 2024, 0, 0);
        Check.due("open", book.roster(2024, 0, 2), 3);
        int[][] due = {{-2, -2, 1}, {0, -2, 1}};
        for (int k = 0; k < 2; k++) {
            for (int role = 0; role < 3; role++) {
                Check.due("role " + role + " of day " + k, book.turn(k, role, 0), due[k][role]);
            }
        }
    }

    private static void turnOnADayOfTheLatestRoster() {
        Check.sentence("Promise 31", "In the latest ROSTER: the MONK of a ROLE (0 OFFICIANT, 1 CANTOR, 2 READER), the i-th of them, on its k-th day (0 the first); -2 OPEN;");
        ChoirBook book = bookWith(1, 2, 4, 4);
        book.roster(2024, 5, 3);
        int[] first = {0, 1, 2};
        for (int role = 0; role < 3; role++) {
            Check.due("role " + role + " on the first day", book.turn(0, role, 0), first[role]);
        }
        Check.due("the first reader of the Sunday", book.turn(1, 2, 0), 3);
        Check.due("the second", book.turn(1, 2, 1), 2);
        Check.due("the third is open", book.turn(1, 2, 2), -2);
        Check.due("the last day", book.turn(2, 1, 0), 1);
        Check.refused("a roster that is refused", book.roster(2024, 0, 61));
        Check.due("is not the latest", book.turn(2, 1, 0), 1);
        book.roster(2023, 5, 1);
        Check.refused("the latest has one day", book.turn(1, 1, 0));
    }

    private static void turnOfNoSuchRole() {
        Check.sentence("Promise 31", "NONE: no such ROLE there.");
        ChoirBook book = bookWith(7, 7, 7);
        Check.refused("without a roster", book.turn(0, 0, 0));
        book.roster(2024, 5, 2);
        int[][] wrong = {
            {-1, 0, 0}, {2, 0, 0}, {0, -1, 0}, {0, 3, 0}, {0, 0, -1}, {0, 0, 1}, {0, 1, -1}, {0, 1, 1}, {0, 2, -1}, {0, 2, 1},
            {1, 2, 3}, {1, 1, 1}, {1, 0, 1}};
        for (int[] w : wrong) {
            Check.refused("i " + w[2] + " of role " + w[1] + " on day " + w[0], book.turn(w[0], w[1], w[2]));
        }
        for (int extreme : EXTREMES) {
            Check.refused("day " + extreme, book.turn(extreme, 0, 0));
            Check.refused("role " + extreme, book.turn(0, extreme, 0));
            Check.refused("i " + extreme, book.turn(0, 0, extreme));
        }
        Check.due("the third reader of the Sunday", book.turn(1, 2, 2), -2);
    }

    private static void hadHowOften() {
        Check.sentence("Promise 32", "How often a MONK has a ROLE in it; NONE without a ROSTER, MONK, ROLE.");
        ChoirBook book = bookWith(7, 7, 7, 7);
        book.roster(2024, 0, 1);
        int[][] due = {{1, 0, 0}, {0, 1, 0}, {0, 0, 1}, {0, 0, 0}};
        for (int monk = 0; monk < 4; monk++) {
            for (int role = 0; role < 3; role++) {
                Check.due("role " + role + " of monk " + monk, book.had(monk, role), due[monk][role]);
            }
        }
        book.roster(2024, 0, 60);
        Check.due("officiants of 60 days", book.had(0, 0) + book.had(1, 0) + book.had(2, 0) + book.had(3, 0), 60);
        book.roster(2024, 0, 1);
        Check.due("the latest alone", book.had(0, 0), 1);
    }

    private static void hadWithoutRosterMonkOrRole() {
        Check.sentence("Promise 32", "NONE without a ROSTER, MONK, ROLE.");
        ChoirBook book = bookWith(7);
        Check.refused("no roster", book.had(0, 0));
        book.roster(2024, 0, 0);
        Check.refused("nor one that is refused", book.had(0, 0));
        book.roster(2024, 0, 1);
        Check.due("a roster", book.had(0, 0), 1);
        int[] monks = {-1, 1, 23, 24, EXTREMES[0], EXTREMES[1]};
        for (int monk : monks) {
            Check.refused("monk " + monk, book.had(monk, 0));
        }
        int[] roles = {-1, 3, EXTREMES[0], EXTREMES[1]};
        for (int role : roles) {
            Check.refused("role " + role, book.had(0, role));
        }
        book.monk(7);
        Check.due("a monk told behind the roster", book.had(1, 0), 0);
        for (int role : roles) {
            Check.refused("role " + role + " of another", book.had(1, role));
        }
    }
}
