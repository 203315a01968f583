/** Promises 21 to 27. */
public final class TonesTest {
    public static void main(String[] args) {
        tonesTold();
        versesTold();
        oneAccent();
        twoAccents();
        notesBefore();
        intonation();
        partedVerses();
        refusedQuestions();
        Check.end("TonesTest");
    }

    private static void tonesTold() {
        ChoirBook book = new ChoirBook();
        Check.due("21: tenor", book.tenor(8, 30), 0);
        Check.due("21: tenor", book.tenor(0, 0), 0);
        int[][] wrongTenor = {{-1, 0}, {9, 0}, {0, -1}, {0, 31}, {Integer.MAX_VALUE, 0}, {0, Integer.MIN_VALUE}};
        for (int[] w : wrongTenor) {
            Check.due("21: " + w[0] + " " + w[1], book.tenor(w[0], w[1]), -1);
        }
        int[][] wrongNote = {{-1, 0, 0}, {9, 0, 0}, {0, -1, 0}, {0, 3, 0}, {0, 0, -1}, {0, 0, 31}, {0, 1, 31}, {0, 2, 31}};
        for (int[] w : wrongNote) {
            Check.due("22: " + w[0] + " " + w[1] + " " + w[2], book.note(w[0], w[1], w[2]), -1);
        }
        int[] most = {4, 3, 3};
        for (int what = 0; what < most.length; what++) {
            for (int i = 1; i <= most[what]; i++) {
                Check.due("22: " + what, book.note(0, what, 30), i);
            }
            Check.due("22: one more", book.note(0, what, 1), -1);
        }
        Check.due("22: another tone", book.note(1, 0, 1), 1);
        Check.due("23: accent", book.accent(0, 0, 0, 0, 30, 1), 0);
        int[][] wrongAccent = {
            {-1, 0, 0, 0, 0, 0}, {9, 0, 0, 0, 0, 0}, {0, -1, 0, 0, 0, 0}, {0, 2, 0, 0, 0, 0}, {0, 0, -1, 0, 0, 0},
            {0, 0, 2, 0, 0, 0}, {0, 0, 0, -1, 0, 0}, {0, 0, 0, 31, 0, 0}, {0, 0, 0, 0, -1, 0}, {0, 0, 0, 0, 31, 0},
            {0, 0, 0, 0, 0, -1}, {0, 0, 0, 0, 0, 31}};
        for (int[] w : wrongAccent) {
            Check.due("23: " + w[0] + w[1] + w[2] + w[3] + w[4] + w[5],
                book.accent(w[0], w[1], w[2], w[3], w[4], w[5]), -1);
        }
        Check.due("24: two", book.accents(8, 1, 2), 0);
        Check.due("24: one", book.accents(8, 1, 1), 0);
        int[][] wrongMany = {{-1, 0, 1}, {9, 0, 1}, {0, -1, 1}, {0, 2, 1}, {0, 0, 0}, {0, 0, 3}};
        for (int[] w : wrongMany) {
            Check.due("24: " + w[0] + " " + w[1] + " " + w[2], book.accents(w[0], w[1], w[2]), -1);
        }
    }

    private static void versesTold() {
        ChoirBook book = new ChoirBook();
        for (int i = 1; i <= 60; i++) {
            Check.due("25: " + i, book.syllable(19, i % 3 == 0), i);
        }
        Check.due("25: one more", book.syllable(19, true), -1);
        Check.due("25: verse -1", book.syllable(-1, true), -1);
        Check.due("25: verse 20", book.syllable(20, true), -1);
        Check.due("26: behind all", book.part(19), 60);
        Check.due("27: nothing behind", book.sing(19, 0, 0), -1);
        Check.due("26: again", book.part(19), -1);
        Check.due("26: none yet", book.part(0), -1);
        Check.due("25: first", book.syllable(0, false), 1);
        Check.due("26: behind one", book.part(0), 1);
        Check.due("25: second", book.syllable(0, false), 2);
        Check.due("26: again", book.part(0), -1);
        Check.due("26: verse -1", book.part(-1), -1);
        Check.due("26: verse 20", book.part(20), -1);
        Check.due("26: verse " + Integer.MAX_VALUE, book.part(Integer.MAX_VALUE), -1);
    }

    /** 1 to 9 stand for the tenor (1), the first accent's notes (2 to 4) and the last one's (5 to 7). */
    private static ChoirBook toldBook(int many) {
        ChoirBook book = new ChoirBook();
        for (int cadence = 0; cadence < 2; cadence++) {
            book.tenor(0, 1);
            book.accent(0, cadence, 0, 2, 3, 4);
            book.accent(0, cadence, 1, 5, 6, 7);
            book.accents(0, cadence, many);
        }
        return book;
    }

    private static void pointed(ChoirBook book, int verse, String syllables, int[] notes) {
        for (int i = 0; i < syllables.length(); i++) {
            char c = syllables.charAt(i);
            if (c == '/') {
                book.part(verse);
            } else {
                book.syllable(verse, c == 'x');
            }
        }
        for (int i = 0; i < notes.length; i++) {
            Check.due("27: " + syllables + " at " + i, book.sing(verse, 0, i), notes[i]);
        }
        Check.due("27: " + syllables + " past its end", book.sing(verse, 0, notes.length), -1);
    }

    private static void oneAccent() {
        ChoirBook book = toldBook(1);
        pointed(book, 0, ".", new int[] {5});
        pointed(book, 1, "x", new int[] {5});
        pointed(book, 2, "..", new int[] {5, 7});
        pointed(book, 3, ".x", new int[] {5, 7});
        pointed(book, 4, "x.", new int[] {5, 7});
        pointed(book, 5, "...", new int[] {5, 6, 7});
        pointed(book, 6, ".x.", new int[] {1, 5, 7});
        pointed(book, 7, "xx.", new int[] {1, 5, 7});
        pointed(book, 8, "x..", new int[] {5, 6, 7});
        pointed(book, 9, "..x", new int[] {5, 6, 7});
        pointed(book, 10, "x...", new int[] {1, 5, 6, 7});
        pointed(book, 11, ".x..", new int[] {1, 5, 6, 7});
        pointed(book, 12, "x..xx", new int[] {1, 1, 1, 5, 7});
        pointed(book, 13, "x..x.x", new int[] {1, 1, 1, 5, 6, 7});
    }

    private static void twoAccents() {
        ChoirBook book = toldBook(2);
        pointed(book, 0, ".", new int[] {5});
        pointed(book, 1, "..", new int[] {5, 7});
        pointed(book, 2, "xx.", new int[] {1, 5, 7});
        pointed(book, 3, "x.x.", new int[] {2, 4, 5, 7});
        pointed(book, 4, "..x.", new int[] {2, 4, 5, 7});
        pointed(book, 5, "x..x.", new int[] {2, 3, 4, 5, 7});
        pointed(book, 6, "xx.x.", new int[] {1, 2, 4, 5, 7});
        pointed(book, 7, ".xxx.", new int[] {1, 2, 4, 5, 7});
        pointed(book, 8, "x...x..", new int[] {1, 1, 2, 4, 5, 6, 7});
        pointed(book, 9, ".x..x..", new int[] {1, 2, 3, 4, 5, 6, 7});
        pointed(book, 10, ".....", new int[] {2, 4, 5, 6, 7});
        pointed(book, 11, "...", new int[] {5, 6, 7});
        pointed(book, 12, "....", new int[] {1, 5, 6, 7});
    }

    private static void notesBefore() {
        ChoirBook book = toldBook(1);
        book.note(0, 2, 11);
        book.note(0, 2, 12);
        book.note(0, 2, 13);
        pointed(book, 0, "x", new int[] {5});
        pointed(book, 1, ".x.", new int[] {13, 5, 7});
        pointed(book, 2, "..x.", new int[] {12, 13, 5, 7});
        pointed(book, 3, "...x.", new int[] {11, 12, 13, 5, 7});
        pointed(book, 4, "....x.", new int[] {1, 11, 12, 13, 5, 7});
        book.accents(0, 1, 2);
        pointed(book, 5, ".....x.x.", new int[] {1, 1, 11, 12, 13, 2, 4, 5, 7});
        pointed(book, 6, ".x..x.", new int[] {13, 2, 3, 4, 5, 7});
        // Without room for the first accent they stand ahead of the last one.
        pointed(book, 7, ".x.", new int[] {13, 5, 7});
        book.note(0, 0, 21);
        book.note(0, 0, 22);
        pointed(book, 8, "....x.x.", new int[] {21, 11, 12, 13, 2, 4, 5, 7});
        pointed(book, 9, ".......x.x.", new int[] {21, 22, 1, 1, 11, 12, 13, 2, 4, 5, 7});
        pointed(book, 10, "x.", new int[] {5, 7});
    }

    private static void intonation() {
        ChoirBook book = toldBook(1);
        for (int i = 1; i <= 4; i++) {
            book.note(0, 0, 20 + i);
        }
        pointed(book, 0, ".", new int[] {5});
        pointed(book, 1, ".x.", new int[] {21, 5, 7});
        pointed(book, 2, "....x.", new int[] {21, 22, 23, 24, 5, 7});
        pointed(book, 3, ".....x.", new int[] {21, 22, 23, 24, 1, 5, 7});
        pointed(book, 4, "....../....x.", new int[] {21, 22, 23, 5, 6, 7, 1, 1, 1, 1, 5, 7});
    }

    private static void partedVerses() {
        ChoirBook book = new ChoirBook();
        book.tenor(0, 1);
        book.accent(0, 0, 1, 2, 3, 4);
        book.accent(0, 1, 1, 5, 6, 7);
        book.accent(0, 1, 0, 8, 9, 10);
        book.accents(0, 1, 2);
        book.note(0, 1, 11);
        book.note(0, 2, 12);
        book.note(0, 0, 21);
        pointed(book, 0, "...x./..x.x.", new int[] {21, 1, 11, 2, 4, 1, 12, 8, 10, 5, 7});
        pointed(book, 1, "x/x", new int[] {2, 5});
        // A stressed syllable of the other half is none of this one.
        pointed(book, 2, ".x/..", new int[] {2, 4, 5, 7});
        pointed(book, 3, "x/...", new int[] {2, 5, 6, 7});
        pointed(book, 4, "..x/.x.", new int[] {2, 3, 4, 12, 5, 7});
        book.syllable(5, true);
        Check.due("27: not parted", book.sing(5, 0, 0), 5);
        book.part(5);
        Check.due("27: parted with nothing behind", book.sing(5, 0, 0), -1);
        book.syllable(5, true);
        Check.due("27: something behind", book.sing(5, 0, 0), 2);
        Check.due("27: and this", book.sing(5, 0, 1), 5);
    }

    private static void refusedQuestions() {
        ChoirBook book = new ChoirBook();
        book.syllable(0, true);
        Check.due("27: notes are 0 at first", book.sing(0, 8, 0), 0);
        int[][] wrong = {{-1, 0, 0}, {20, 0, 0}, {1, 0, 0}, {0, -1, 0}, {0, 9, 0}, {0, 0, -1}, {0, 0, 1},
            {Integer.MIN_VALUE, 0, 0}, {0, Integer.MAX_VALUE, 0}, {0, 0, Integer.MAX_VALUE}};
        for (int[] w : wrong) {
            Check.due("27: " + w[0] + " " + w[1] + " " + w[2], book.sing(w[0], w[1], w[2]), -1);
        }
    }
}
