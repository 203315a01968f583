/** Promises 28 to 32. */
public final class MonksTest {
    public static void main(String[] args) {
        monksTold();
        absencesTold();
        rolesByRank();
        turnsInOrder();
        noneTwiceADay();
        absentMonks();
        theLatestRoster();
        refusedRosters();
        Check.end("MonksTest");
    }

    private static void monksTold() {
        ChoirBook book = new ChoirBook();
        Check.due("28: -1", book.monk(-1), -1);
        Check.due("28: 8", book.monk(8), -1);
        for (int i = 0; i < 24; i++) {
            Check.due("28: " + i, book.monk(i % 8), i);
        }
        Check.due("28: one more", book.monk(7), -1);
    }

    private static void absencesTold() {
        ChoirBook book = new ChoirBook();
        Check.due("29: no monk yet", book.absence(0, 2024, 0, 0), -1);
        book.monk(7);
        int[][] wrong = {
            {-1, 2024, 0, 0}, {1, 2024, 0, 0}, {0, 1899, 0, 0}, {0, 2200, 0, 0}, {0, 2024, -1, 0}, {0, 2024, 0, 366},
            {0, 2023, 0, 365}, {0, 2024, 5, 4}, {0, 2024, 366, 366}, {0, 2024, Integer.MIN_VALUE, Integer.MAX_VALUE}};
        for (int[] w : wrong) {
            Check.due("29: " + w[0] + " " + w[1] + " " + w[2] + " " + w[3], book.absence(w[0], w[1], w[2], w[3]), -1);
        }
        Check.due("29: to the year's end", book.absence(0, 2024, 365, 365), 1);
        for (int i = 2; i <= 60; i++) {
            Check.due("29: " + i, book.absence(0, 2024, 0, i), i);
        }
        Check.due("29: one more", book.absence(0, 2024, 0, 0), -1);
    }

    private static void rolesByRank() {
        ChoirBook book = new ChoirBook();
        int[] cantors = {1, 1, 1, 1, 2, 2, 2, 4, 4, 4};
        int[] readers = {1, 1, 1, 3, 3, 3, 6, 6, 6, 6};
        // 1 January 2024 is a Monday; feast i is on day i, of rank i; Sunday is day 6, of rank 6.
        for (int rank = 1; rank <= 9; rank++) {
            book.feast(0, 101 + rank, rank, 0, 0);
        }
        int all = 0;
        for (int rank = 0; rank <= 9; rank++) {
            all += 1 + cantors[rank] + readers[rank];
        }
        Check.due("30: all open", book.roster(2024, 0, 10), all);
        for (int rank = 0; rank <= 9; rank++) {
            Check.due("31: officiant", book.turn(rank, 0, 0), -2);
            Check.due("31: one officiant", book.turn(rank, 0, 1), -1);
            Check.due("31: the last cantor", book.turn(rank, 1, cantors[rank] - 1), -2);
            Check.due("31: no more cantors", book.turn(rank, 1, cantors[rank]), -1);
            Check.due("31: the last reader", book.turn(rank, 2, readers[rank] - 1), -2);
            Check.due("31: no more readers", book.turn(rank, 2, readers[rank]), -1);
        }
        book.raise(0, 9, 0);
        Check.due("31: as it was made", book.turn(1, 1, 1), -1);
    }

    private static void turnsInOrder() {
        ChoirBook book = new ChoirBook();
        for (int i = 0; i < 3; i++) {
            book.monk(1);
        }
        book.monk(2);
        book.monk(6);
        // Days 0 to 5 of 2024 are weekdays of rank 0.
        Check.due("30: open", book.roster(2024, 0, 6), 3);
        int[] officiants = {0, 1, 2, 0, 1, 2};
        int[] cantors = {3, 4, 3, 4, 3, 4};
        int[] readers = {4, -2, 4, -2, 4, -2};
        for (int k = 0; k < 6; k++) {
            Check.due("31: officiant of " + k, book.turn(k, 0, 0), officiants[k]);
            Check.due("31: cantor of " + k, book.turn(k, 1, 0), cantors[k]);
            Check.due("31: reader of " + k, book.turn(k, 2, 0), readers[k]);
        }
        Check.due("32: monk 0", book.had(0, 0), 2);
        Check.due("32: monk 2", book.had(2, 0), 2);
        Check.due("32: monk 3", book.had(3, 1), 3);
        Check.due("32: monk 4", book.had(4, 1), 3);
        Check.due("32: monk 4 reads", book.had(4, 2), 3);
        Check.due("32: monk 4 is no officiant", book.had(4, 0), 0);
    }

    private static void noneTwiceADay() {
        ChoirBook book = new ChoirBook();
        for (int i = 0; i < 6; i++) {
            book.monk(7);
        }
        book.feast(0, 102, 9, 0, 2);
        Check.due("30: six of eleven", book.roster(2024, 1, 1), 5);
        Check.due("31: officiant", book.turn(0, 0, 0), 0);
        for (int i = 0; i < 4; i++) {
            Check.due("31: cantor " + i, book.turn(0, 1, i), 1 + i);
        }
        Check.due("31: reader", book.turn(0, 2, 0), 5);
        for (int i = 1; i < 6; i++) {
            Check.due("31: no reader " + i, book.turn(0, 2, i), -2);
        }
        Check.due("30: the next day", book.roster(2024, 1, 2), 5);
        // Who has had this role least is told by role: monk 1 was no officiant yet.
        Check.due("31: officiant", book.turn(1, 0, 0), 1);
        Check.due("31: cantor", book.turn(1, 1, 0), 0);
        Check.due("31: reader", book.turn(1, 2, 0), 2);
    }

    private static void absentMonks() {
        ChoirBook book = new ChoirBook();
        book.monk(1);
        book.monk(1);
        book.monk(1);
        book.absence(0, 2024, 1, 2);
        book.absence(0, 2024, 5, 5);
        book.absence(1, 2023, 0, 364);
        book.absence(2, 2024, 4, 4);
        book.absence(2, 2024, 5, 5);
        book.absence(1, 2024, 5, 5);
        // Cantors and readers stay open.
        Check.due("30: open", book.roster(2024, 0, 6), 13);
        int[] officiants = {0, 1, 2, 0, 1, -2};
        for (int k = 0; k < officiants.length; k++) {
            Check.due("31: officiant of " + k, book.turn(k, 0, 0), officiants[k]);
        }
        ChoirBook late = new ChoirBook();
        late.monk(1);
        late.monk(1);
        late.monk(1);
        late.absence(0, 2024, 0, 1);
        late.absence(2, 2024, 0, 0);
        late.absence(2, 2024, 4, 5);
        // On day 4 both 0 and 1 had it once; 1 had it earlier.
        int[] turns = {1, 2, 0, 1, 0, 0};
        late.absence(1, 2024, 5, 5);
        late.roster(2024, 0, 6);
        for (int k = 0; k < turns.length; k++) {
            Check.due("31: officiant of " + k, late.turn(k, 0, 0), turns[k]);
        }
        earliestLatestDay();
    }

    private static void earliestLatestDay() {
        ChoirBook book = new ChoirBook();
        book.monk(1);
        book.monk(1);
        // Monk 0 is away at first, so he has his first turn behind monk 1.
        book.absence(0, 2024, 0, 0);
        int[] turns = {1, 0, 1, 0};
        book.roster(2024, 0, 4);
        for (int k = 0; k < turns.length; k++) {
            Check.due("31: officiant of " + k, book.turn(k, 0, 0), turns[k]);
        }
    }

    private static void theLatestRoster() {
        ChoirBook book = new ChoirBook();
        Check.due("31: none yet", book.turn(0, 0, 0), -1);
        book.monk(1);
        book.monk(1);
        Check.due("32: none yet", book.had(0, 0), -1);
        book.roster(2024, 0, 3);
        Check.due("32: twice", book.had(0, 0), 2);
        book.roster(2023, 10, 1);
        Check.due("31: anew", book.turn(0, 0, 0), 0);
        Check.due("31: no second day", book.turn(1, 0, 0), -1);
        Check.due("32: once", book.had(0, 0), 1);
        Check.due("32: not yet", book.had(1, 0), 0);
        Check.due("30: refused", book.roster(2024, 0, 61), -1);
        Check.due("32: the latest that was made", book.had(0, 0), 1);
        book.monk(1);
        Check.due("32: a monk told behind it", book.had(2, 0), 0);
        int[][] wrong = {{-1, 0}, {3, 0}, {0, -1}, {0, 3}, {Integer.MAX_VALUE, 0}, {0, Integer.MIN_VALUE}};
        for (int[] w : wrong) {
            Check.due("32: " + w[0] + " " + w[1], book.had(w[0], w[1]), -1);
        }
        int[][] wrongTurns = {{-1, 0, 0}, {1, 0, 0}, {0, -1, 0}, {0, 3, 0}, {0, 0, -1}, {0, 0, 1}, {0, 1, 1}, {0, 2, 1},
            {Integer.MAX_VALUE, 0, 0}, {0, 1, Integer.MAX_VALUE}};
        for (int[] w : wrongTurns) {
            Check.due("31: " + w[0] + " " + w[1] + " " + w[2], book.turn(w[0], w[1], w[2]), -1);
        }
    }

    private static void refusedRosters() {
        ChoirBook book = new ChoirBook();
        int[][] wrong = {
            {1899, 0, 1}, {2200, 0, 1}, {2024, -1, 1}, {2024, 366, 1}, {2024, 0, 0}, {2024, 0, 61}, {2024, 0, -1},
            {2024, 365, 2}, {2023, 364, 2}, {2024, 307, 60}, {2024, Integer.MAX_VALUE, 60}, {2024, 0, Integer.MAX_VALUE}};
        for (int[] w : wrong) {
            Check.due("30: " + w[0] + " " + w[1] + " " + w[2], book.roster(w[0], w[1], w[2]), -1);
        }
        Check.due("31: none was made", book.turn(0, 0, 0), -1);
        // 61 days from day 306 on, less one: eight Sundays and a ninth, day 363, are of rank 3.
        Check.due("30: to the year's end", book.roster(2024, 306, 60), 60 * 3 + 9 * 2);
        Check.due("31: the last day", book.turn(59, 2, 0), -2);
        Check.due("31: none behind", book.turn(60, 0, 0), -1);
        Check.due("30: the last day", book.roster(2024, 365, 1), 3);
    }
}
