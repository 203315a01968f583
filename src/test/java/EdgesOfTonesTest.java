/** The boundaries of Terms IV and of promises 21 to 27: a test for each sentence. */
public final class EdgesOfTonesTest {
    private static final int[] EXTREMES = {Integer.MIN_VALUE, Integer.MAX_VALUE};

    public static void main(String[] args) {
        tones0To8();
        tenorOfATone();
        intonationOf0To4Notes();
        twoCadences();
        oneOrTwoAccents();
        notesBefore0To3();
        noteWhat0To2();
        notes0To30();
        allNotes0AtFirstWithOneAccent();
        verses0To19();
        syllables1To60();
        partedBehindOneOfThem();
        partedWithNothingBehind();
        notPartedItIsTheSecondHalf();
        lastAccentWithOneOrTwoBehindIt();
        lastAccentWithoutSuch();
        firstAccentTwoOrThreeAhead();
        firstAccentWithoutSuch();
        lastAccentAlone();
        notesBehindAnAccent();
        notesBeforeRightAheadOfTheFirstAccent();
        notesBeforeWhereThereAreTooFew();
        intonationFromTheFirstSyllableOn();
        intonationAsFarAsSyllablesAreLeft();
        allOthersHaveTheTenor();
        accentOfACadence();
        singNoSuchSyllable();
        Check.end("EdgesOfTonesTest");
    }

    /** The tenor is 1, the first accent's notes are 2, 3, 4, those of the last one 5, 6, 7, in both cadences. */
    private static ChoirBook toldBook(int accents) {
        ChoirBook book = new ChoirBook();
        book.tenor(0, 1);
        for (int cadence = 0; cadence < 2; cadence++) {
            book.accent(0, cadence, 0, 2, 3, 4);
            book.accent(0, cadence, 1, 5, 6, 7);
            book.accents(0, cadence, accents);
        }
        return book;
    }

    /** Tells a verse, x for a stressed syllable, and looks at each of its notes. */
    private static void sung(ChoirBook book, int verse, String syllables, int... notes) {
        for (int i = 0; i < syllables.length(); i++) {
            if (syllables.charAt(i) == '/') {
                book.part(verse);
            } else {
                book.syllable(verse, syllables.charAt(i) == 'x');
            }
        }
        for (int i = 0; i < notes.length; i++) {
            Check.due(syllables + " at " + i, book.sing(verse, 0, i), notes[i]);
        }
        Check.refused(syllables + " ahead of it", book.sing(verse, 0, -1));
        Check.refused(syllables + " behind it", book.sing(verse, 0, notes.length));
    }

    private static void tones0To8() {
        Check.sentence("Terms", "TONES 0 .. 8: a TENOR");
        ChoirBook book = new ChoirBook();
        for (int i = 0; i < 4; i++) {
            book.syllable(0, false);
        }
        for (int tone = 0; tone <= 8; tone += 8) {
            Check.due("tenor of " + tone, book.tenor(tone, 5 + tone), 0);
            Check.due("note of " + tone, book.note(tone, 2, 1), 1);
            Check.due("accent of " + tone, book.accent(tone, 1, 1, 2, 3, 4), 0);
            Check.due("accents of " + tone, book.accents(tone, 1, 1), 0);
            Check.due("sung by " + tone, book.sing(0, tone, 1), 2);
        }
        int[] wrong = {-1, 9, 10, EXTREMES[0], EXTREMES[1]};
        for (int tone : wrong) {
            Check.refused("tenor of " + tone, book.tenor(tone, 5));
            Check.refused("note of " + tone, book.note(tone, 0, 1));
            Check.refused("accent of " + tone, book.accent(tone, 1, 1, 2, 3, 4));
            Check.refused("accents of " + tone, book.accents(tone, 1, 1));
            Check.refused("sung by " + tone, book.sing(0, tone, 1));
        }
    }

    private static void tenorOfATone() {
        Check.sentence("Promise 21", "TENOR of a TONE: 0; NONE.");
        ChoirBook book = new ChoirBook();
        int[] tones = {-1, 9, EXTREMES[0], EXTREMES[1]};
        for (int tone : tones) {
            Check.refused("tone " + tone, book.tenor(tone, 0));
        }
        int[] notes = {-1, 31, EXTREMES[0], EXTREMES[1]};
        for (int note : notes) {
            Check.refused("note " + note, book.tenor(8, note));
        }
        sung(book, 0, "..x.", 0, 0, 0, 0);
        Check.due("note 30", book.tenor(0, 30), 0);
        sung(book, 1, "..x.", 30, 30, 0, 0);
        Check.due("note 0", book.tenor(0, 0), 0);
        sung(book, 2, "..x.", 0, 0, 0, 0);
        Check.due("tone 8", book.tenor(8, 30), 0);
        sung(book, 3, "..x.", 0, 0, 0, 0);
        Check.due("sung by tone 8", book.sing(3, 8, 0), 30);
    }

    private static void intonationOf0To4Notes() {
        Check.sentence("Terms", "0 .. 4 notes of INTONATION");
        ChoirBook book = toldBook(1);
        sung(book, 0, ".......x.", 1, 1, 1, 1, 1, 1, 1, 5, 7);
        for (int i = 1; i <= 4; i++) {
            Check.due("note " + i, book.note(0, 0, 20 + i), i);
        }
        Check.refused("a fifth", book.note(0, 0, 25));
        sung(book, 1, ".......x.", 21, 22, 23, 24, 1, 1, 1, 5, 7);
        Check.due("another tone has none", book.note(1, 0, 1), 1);
    }

    private static void twoCadences() {
        Check.sentence("Terms", "two CADENCES (0 of the first, 1 of the second half)");
        ChoirBook book = toldBook(1);
        Check.due("cadence 0", book.accent(0, 0, 1, 11, 12, 13), 0);
        Check.due("cadence 1", book.accent(0, 1, 1, 14, 15, 16), 0);
        Check.due("accents of cadence 0", book.accents(0, 0, 1), 0);
        Check.due("accents of cadence 1", book.accents(0, 1, 1), 0);
        int[] wrong = {-1, 2, EXTREMES[0], EXTREMES[1]};
        for (int cadence : wrong) {
            Check.refused("cadence " + cadence, book.accent(0, cadence, 1, 0, 0, 0));
            Check.refused("accents of cadence " + cadence, book.accents(0, cadence, 1));
        }
        sung(book, 0, "..x./..x.", 1, 1, 11, 13, 1, 1, 14, 16);
    }

    private static void oneOrTwoAccents() {
        Check.sentence("Promise 24", "A CADENCE has so many accents (1, 2): 0; NONE.");
        ChoirBook book = toldBook(1);
        int[] wrong = {0, 3, -1, EXTREMES[0], EXTREMES[1]};
        sung(book, 0, "x.x./x.x.", 1, 1, 5, 7, 1, 1, 5, 7);
        for (int many : wrong) {
            Check.refused("accents " + many, book.accents(0, 0, many));
        }
        Check.due("two in the first half", book.accents(0, 0, 2), 0);
        sung(book, 1, "x.x./x.x.", 2, 4, 5, 7, 1, 1, 5, 7);
        for (int many : wrong) {
            Check.refused("accents " + many, book.accents(0, 0, many));
        }
        Check.due("two in the second half", book.accents(0, 1, 2), 0);
        Check.due("one in the first half", book.accents(0, 0, 1), 0);
        sung(book, 2, "x.x./x.x.", 1, 1, 5, 7, 2, 4, 5, 7);
    }

    private static void notesBefore0To3() {
        Check.sentence("Terms", "1 or 2 accents, 0 .. 3 notes before, of each accent its note, an extra one, the one behind");
        ChoirBook book = toldBook(1);
        sung(book, 0, "....x./....x.", 1, 1, 1, 1, 5, 7, 1, 1, 1, 1, 5, 7);
        for (int what = 1; what <= 2; what++) {
            for (int i = 1; i <= 3; i++) {
                Check.due("note " + i + " of what " + what, book.note(0, what, 10 * what + i), i);
            }
            Check.refused("a fourth of what " + what, book.note(0, what, 0));
        }
        sung(book, 1, "....x./....x.", 1, 11, 12, 13, 5, 7, 1, 21, 22, 23, 5, 7);
        Check.due("another tone has none", book.note(1, 1, 0), 1);
    }

    private static void noteWhat0To2() {
        Check.sentence("Promise 22", "One more note of INTONATION (what 0), before the accents of CADENCE 0 (1), of CADENCE 1 (2): how many; NONE.");
        ChoirBook book = toldBook(1);
        int[] wrong = {-1, 3, EXTREMES[0], EXTREMES[1]};
        for (int what : wrong) {
            Check.refused("what " + what, book.note(0, what, 0));
        }
        int[] tones = {-1, 9, EXTREMES[0], EXTREMES[1]};
        for (int tone : tones) {
            Check.refused("tone " + tone, book.note(tone, 0, 0));
        }
        sung(book, 0, "...x./...x.", 1, 1, 1, 5, 7, 1, 1, 1, 5, 7);
        Check.due("what 1", book.note(0, 1, 12), 1);
        sung(book, 1, "...x./...x.", 1, 1, 12, 5, 7, 1, 1, 1, 5, 7);
        Check.due("what 2", book.note(0, 2, 13), 1);
        sung(book, 2, "...x./...x.", 1, 1, 12, 5, 7, 1, 1, 13, 5, 7);
        Check.due("what 0", book.note(0, 0, 11), 1);
        sung(book, 3, "...x./...x.", 11, 1, 12, 5, 7, 1, 1, 13, 5, 7);
    }

    private static void notes0To30() {
        Check.sentence("Terms", "Notes are 0 .. 30");
        ChoirBook book = new ChoirBook();
        int[] wrong = {-1, 31, EXTREMES[0], EXTREMES[1]};
        for (int note : wrong) {
            Check.refused("tenor " + note, book.tenor(0, note));
            for (int what = 0; what <= 2; what++) {
                Check.refused("note " + note + " of what " + what, book.note(0, what, note));
            }
            for (int which = 0; which <= 1; which++) {
                Check.refused("on " + note, book.accent(0, 1, which, note, 0, 0));
                Check.refused("extra " + note, book.accent(0, 1, which, 0, note, 0));
                Check.refused("behind " + note, book.accent(0, 1, which, 0, 0, note));
            }
        }
        Check.due("tenor 30", book.tenor(0, 30), 0);
        Check.due("accent of 30", book.accent(0, 1, 1, 30, 30, 30), 0);
        sung(book, 0, "..x..", 30, 30, 30, 30, 30);
        Check.due("tenor 0", book.tenor(0, 0), 0);
        Check.due("accent of 0", book.accent(0, 1, 1, 0, 0, 0), 0);
        sung(book, 1, "..x..", 0, 0, 0, 0, 0);
        Check.due("note 30 before", book.note(0, 2, 30), 1);
        Check.due("note 0 before", book.note(0, 2, 0), 2);
        Check.due("note 30 of INTONATION", book.note(0, 0, 30), 1);
        Check.due("note 0 of INTONATION", book.note(0, 0, 0), 2);
        book.tenor(0, 5);
        sung(book, 2, "......x..", 30, 0, 5, 5, 30, 0, 0, 0, 0);
    }

    private static void allNotes0AtFirstWithOneAccent() {
        Check.sentence("Terms", "all 0 at first, with one accent");
        for (int tone = 0; tone <= 8; tone++) {
            ChoirBook book = new ChoirBook();
            for (int i = 0; i < 7; i++) {
                book.syllable(0, false);
            }
            for (int i = 0; i < 7; i++) {
                Check.due("tone " + tone + " at " + i, book.sing(0, tone, i), 0);
            }
            book.accent(tone, 1, 0, 2, 3, 4);
            Check.due("no first accent by tone " + tone, book.sing(0, tone, 2), 0);
            book.accents(tone, 1, 2);
            Check.due("with two by tone " + tone, book.sing(0, tone, 2), 2);
        }
    }

    private static void verses0To19() {
        Check.sentence("Terms", "A VERSE 0 .. 19 has 1 .. 60 syllables, stressed or not");
        ChoirBook book = new ChoirBook();
        for (int verse = 0; verse <= 19; verse += 19) {
            Check.refused("part " + verse + " without a syllable", book.part(verse));
            Check.refused("sing " + verse + " without a syllable", book.sing(verse, 0, 0));
            Check.due("syllable of " + verse, book.syllable(verse, true), 1);
            Check.due("sing " + verse, book.sing(verse, 0, 0), 0);
            Check.due("part " + verse, book.part(verse), 1);
        }
        int[] wrong = {-1, 20, 21, EXTREMES[0], EXTREMES[1]};
        for (int verse : wrong) {
            Check.refused("syllable of " + verse, book.syllable(verse, true));
            Check.refused("part " + verse, book.part(verse));
            Check.refused("sing " + verse, book.sing(verse, 0, 0));
        }
        Check.due("another verse has its own", book.syllable(1, true), 1);
    }

    private static void syllables1To60() {
        Check.sentence("Promise 25", "One more syllable of a VERSE: how many; NONE.");
        ChoirBook book = toldBook(1);
        for (int i = 1; i <= 60; i++) {
            Check.due("syllable " + i, book.syllable(0, i == 59), i);
        }
        Check.refused("a sixty-first", book.syllable(0, true));
        Check.refused("again", book.syllable(0, false));
        Check.due("the sixtieth", book.sing(0, 0, 59), 7);
        Check.due("the fifty-ninth", book.sing(0, 0, 58), 5);
        Check.due("the first", book.sing(0, 0, 0), 1);
        Check.refused("none behind", book.sing(0, 0, 60));
        for (int i = 1; i <= 30; i++) {
            book.syllable(1, false);
        }
        book.part(1);
        for (int i = 31; i <= 60; i++) {
            Check.due("syllable " + i + " of both halves", book.syllable(1, false), i);
        }
        Check.refused("a sixty-first of both halves", book.syllable(1, false));
        Check.due("the last of the first half", book.sing(1, 0, 29), 7);
        Check.due("the last of the second half", book.sing(1, 0, 59), 7);
    }

    private static void partedBehindOneOfThem() {
        Check.sentence("Promise 26", "A VERSE is parted behind its syllables so far (there is one at least): how many these are; NONE also if it is already.");
        ChoirBook book = toldBook(1);
        Check.refused("none so far", book.part(0));
        book.syllable(0, false);
        Check.due("behind one", book.part(0), 1);
        Check.refused("already", book.part(0));
        book.syllable(0, false);
        Check.refused("already, with one behind", book.part(0));
        Check.due("the first half's", book.sing(0, 0, 0), 5);
        Check.due("the second half's", book.sing(0, 0, 1), 5);
        for (int i = 1; i <= 59; i++) {
            book.syllable(1, false);
        }
        Check.due("behind 59", book.part(1), 59);
        Check.due("the last one is the second half", book.syllable(1, false), 60);
        Check.due("its note", book.sing(1, 0, 59), 5);
        Check.due("the one ahead ends the first half", book.sing(1, 0, 58), 7);
        for (int i = 1; i <= 60; i++) {
            book.syllable(2, false);
        }
        Check.due("behind 60", book.part(2), 60);
        Check.refused("with nothing behind, for ever", book.syllable(2, false));
        Check.refused("not sung", book.sing(2, 0, 0));
    }

    private static void partedWithNothingBehind() {
        Check.sentence("Promise 27", "The note of syllable i of a VERSE by a TONE; NONE (also of a VERSE that is parted with nothing behind).");
        ChoirBook book = toldBook(1);
        book.syllable(0, true);
        book.syllable(0, false);
        Check.due("not parted", book.sing(0, 0, 0), 5);
        book.part(0);
        Check.refused("with nothing behind", book.sing(0, 0, 0));
        Check.refused("nor the other one", book.sing(0, 0, 1));
        book.syllable(0, true);
        Check.due("with one behind", book.sing(0, 0, 0), 5);
        Check.due("the one behind", book.sing(0, 0, 2), 5);
    }

    private static void notPartedItIsTheSecondHalf() {
        Check.sentence("Terms", "(else it is one half, the second)");
        ChoirBook book = toldBook(1);
        book.accent(0, 0, 1, 15, 16, 17);
        book.note(0, 1, 18);
        sung(book, 0, "..x.", 1, 1, 5, 7);
        sung(book, 1, "..x./..x.", 1, 18, 15, 17, 1, 1, 5, 7);
    }

    private static void lastAccentWithOneOrTwoBehindIt() {
        Check.sentence("Terms", "the last accent is the last stressed syllable with one or two behind it");
        ChoirBook book = toldBook(1);
        sung(book, 0, "....x", 1, 1, 5, 6, 7);
        sung(book, 1, "...x.", 1, 1, 1, 5, 7);
        sung(book, 2, "..x..", 1, 1, 5, 6, 7);
        sung(book, 3, ".x...", 1, 1, 5, 6, 7);
        sung(book, 4, "..xx.", 1, 1, 1, 5, 7);
        sung(book, 5, "..xxx", 1, 1, 1, 5, 7);
        sung(book, 6, "..x.x", 1, 1, 5, 6, 7);
        sung(book, 7, "xx..x", 1, 1, 5, 6, 7);
        sung(book, 8, "x..", 5, 6, 7);
        sung(book, 9, ".x.", 1, 5, 7);
        sung(book, 10, "x.", 5, 7);
    }

    private static void lastAccentWithoutSuch() {
        Check.sentence("Terms", "without such the last but two, or, if there are two, the first one, or the only one");
        ChoirBook book = toldBook(1);
        sung(book, 0, ".....", 1, 1, 5, 6, 7);
        sung(book, 1, "....", 1, 5, 6, 7);
        sung(book, 2, "...", 5, 6, 7);
        sung(book, 3, "..", 5, 7);
        sung(book, 4, ".", 5);
        sung(book, 5, "x", 5);
        sung(book, 6, ".x", 5, 7);
        sung(book, 7, "..x", 5, 6, 7);
        sung(book, 8, "./.", 5, 5);
        sung(book, 9, "../..", 5, 7, 5, 7);
        sung(book, 10, ".../...", 5, 6, 7, 5, 6, 7);
        sung(book, 11, "x/..", 5, 5, 7);
        sung(book, 12, "xx/...", 5, 7, 5, 6, 7);
    }

    private static void firstAccentTwoOrThreeAhead() {
        Check.sentence("Terms", "With two accents the first one is the last stressed syllable two or three ahead of the last accent");
        ChoirBook book = toldBook(2);
        sung(book, 0, "...x.x.", 1, 1, 1, 2, 4, 5, 7);
        sung(book, 1, "..x..x.", 1, 1, 2, 3, 4, 5, 7);
        sung(book, 2, "..xx.x.", 1, 1, 1, 2, 4, 5, 7);
        sung(book, 3, "....xx.", 1, 1, 1, 2, 4, 5, 7);
        sung(book, 4, ".x...x.", 1, 1, 1, 2, 4, 5, 7);
        sung(book, 5, ".xx.xx.", 1, 1, 2, 3, 4, 5, 7);
        sung(book, 6, "x..x.", 2, 3, 4, 5, 7);
        sung(book, 7, "x.x.", 2, 4, 5, 7);
        // A stressed syllable of the first half is none of the second.
        sung(book, 8, "..x/..x.", 5, 6, 7, 2, 4, 5, 7);
    }

    private static void firstAccentWithoutSuch() {
        Check.sentence("Terms", "without such the one two ahead; if that is not there, there is the last accent alone (with its own notes)");
        ChoirBook book = toldBook(2);
        sung(book, 0, "......x.", 1, 1, 1, 1, 2, 4, 5, 7);
        sung(book, 1, "..x.", 2, 4, 5, 7);
        sung(book, 2, ".....", 2, 4, 5, 6, 7);
        sung(book, 3, "xx...", 2, 4, 5, 6, 7);
        sung(book, 4, "...x.", 1, 2, 4, 5, 7);
    }

    private static void lastAccentAlone() {
        Check.sentence("Terms", "if that is not there, there is the last accent alone (with its own notes)");
        ChoirBook book = toldBook(2);
        sung(book, 0, ".x.", 1, 5, 7);
        sung(book, 1, "xx.", 1, 5, 7);
        sung(book, 2, "x..", 5, 6, 7);
        sung(book, 3, "...", 5, 6, 7);
        sung(book, 4, "xxxx", 2, 4, 5, 7);
        sung(book, 5, "....", 1, 5, 6, 7);
        sung(book, 6, "x...", 1, 5, 6, 7);
        sung(book, 7, "..", 5, 7);
        sung(book, 8, "x", 5);
        sung(book, 9, "xxx.x/.x.", 2, 4, 5, 6, 7, 1, 5, 7);
    }

    private static void notesBehindAnAccent() {
        Check.sentence("Terms", "of those behind it, to the next accent or the half's end: one has the note behind; two the extra one, then the one behind");
        ChoirBook book = toldBook(2);
        sung(book, 0, "x.x.", 2, 4, 5, 7);
        sung(book, 1, "x..x.", 2, 3, 4, 5, 7);
        sung(book, 2, "x.x..", 2, 4, 5, 6, 7);
        sung(book, 3, "x..x..", 2, 3, 4, 5, 6, 7);
        sung(book, 4, "x..x../x.x.", 2, 3, 4, 5, 6, 7, 2, 4, 5, 7);
        sung(book, 5, "x./x..", 5, 7, 5, 6, 7);
        sung(book, 6, "x/x", 5, 5);
    }

    private static void notesBeforeRightAheadOfTheFirstAccent() {
        Check.sentence("Terms", "The notes before stand on the syllables right ahead of the first accent, the last one next to it");
        ChoirBook book = toldBook(1);
        book.note(0, 2, 11);
        sung(book, 0, "....x.", 1, 1, 1, 11, 5, 7);
        book.note(0, 2, 12);
        sung(book, 1, "....x.", 1, 1, 11, 12, 5, 7);
        book.note(0, 2, 13);
        sung(book, 2, "....x.", 1, 11, 12, 13, 5, 7);
        book.accents(0, 1, 2);
        sung(book, 3, "....x.x.", 1, 11, 12, 13, 2, 4, 5, 7);
        sung(book, 4, "....x..x..", 1, 11, 12, 13, 2, 3, 4, 5, 6, 7);
        // Where the last accent is alone it is the first one too.
        sung(book, 5, ".x.", 13, 5, 7);
    }

    private static void notesBeforeWhereThereAreTooFew() {
        Check.sentence("Terms", "(where there are too few, the last ones)");
        ChoirBook book = toldBook(1);
        for (int i = 1; i <= 3; i++) {
            book.note(0, 1, 10 + i);
            book.note(0, 2, 20 + i);
        }
        sung(book, 0, "...x.", 21, 22, 23, 5, 7);
        sung(book, 1, "..x.", 22, 23, 5, 7);
        sung(book, 2, ".x.", 23, 5, 7);
        sung(book, 3, "x.", 5, 7);
        sung(book, 4, ".", 5);
        // They don't reach back into the first half.
        sung(book, 5, ".x./.x.", 13, 5, 7, 23, 5, 7);
        sung(book, 6, "...x./x.", 11, 12, 13, 5, 7, 5, 7);
        sung(book, 7, "..x./....x.", 12, 13, 5, 7, 1, 21, 22, 23, 5, 7);
    }

    private static void intonationFromTheFirstSyllableOn() {
        Check.sentence("Terms", "INTONATION, from the first syllable of the first half on (of a VERSE that is not parted: of that)");
        ChoirBook book = toldBook(1);
        book.note(0, 0, 21);
        sung(book, 0, "..x.", 21, 1, 5, 7);
        book.note(0, 0, 22);
        sung(book, 1, "...x.", 21, 22, 1, 5, 7);
        sung(book, 2, "...x./...x.", 21, 22, 1, 5, 7, 1, 1, 1, 5, 7);
        sung(book, 3, "./...x.", 5, 1, 1, 1, 5, 7);
        sung(book, 4, ".x./...x.", 21, 5, 7, 1, 1, 1, 5, 7);
    }

    private static void intonationAsFarAsSyllablesAreLeft() {
        Check.sentence("Terms", "as far as syllables are left");
        ChoirBook book = toldBook(1);
        for (int i = 1; i <= 4; i++) {
            book.note(0, 0, 20 + i);
        }
        sung(book, 0, ".....x.", 21, 22, 23, 24, 1, 5, 7);
        sung(book, 1, "....x.", 21, 22, 23, 24, 5, 7);
        sung(book, 2, "...x.", 21, 22, 23, 5, 7);
        sung(book, 3, ".x.", 21, 5, 7);
        sung(book, 4, "x.", 5, 7);
        sung(book, 5, ".", 5);
        book.note(0, 2, 11);
        book.note(0, 2, 12);
        sung(book, 6, "......x.", 21, 22, 23, 24, 11, 12, 5, 7);
        sung(book, 7, ".....x.", 21, 22, 23, 11, 12, 5, 7);
        sung(book, 8, "...x.", 21, 11, 12, 5, 7);
        sung(book, 9, "..x.", 11, 12, 5, 7);
        sung(book, 10, ".x.", 12, 5, 7);
    }

    private static void allOthersHaveTheTenor() {
        Check.sentence("Terms", "All others have the TENOR.");
        ChoirBook book = toldBook(2);
        book.note(0, 0, 21);
        book.note(0, 2, 11);
        sung(book, 0, "..x.x.", 21, 11, 2, 4, 5, 7);
        sung(book, 1, "...x.x.", 21, 1, 11, 2, 4, 5, 7);
        sung(book, 2, "x.x..x.x.", 21, 1, 1, 1, 11, 2, 4, 5, 7);
        Check.due("another tenor", book.tenor(0, 30), 0);
        Check.due("it has it", book.sing(1, 0, 1), 30);
        Check.refused("a tenor that is no note", book.tenor(0, 31));
        Check.due("it has it still", book.sing(1, 0, 1), 30);
    }

    private static void accentOfACadence() {
        Check.sentence("Promise 23", "The notes of an accent (0 the first of two, 1 the last) of a CADENCE, by two accents or one: 0; NONE.");
        ChoirBook book = new ChoirBook();
        Check.due("the first of two, while there is one", book.accent(0, 1, 0, 2, 3, 4), 0);
        Check.due("the last", book.accent(0, 1, 1, 5, 6, 7), 0);
        int[] wrong = {-1, 2, EXTREMES[0], EXTREMES[1]};
        for (int which : wrong) {
            Check.refused("accent " + which, book.accent(0, 1, which, 0, 0, 0));
        }
        sung(book, 0, "x..x..", 0, 0, 0, 5, 6, 7);
        book.accents(0, 1, 2);
        sung(book, 1, "x..x..", 2, 3, 4, 5, 6, 7);
        Check.refused("no note", book.accent(0, 1, 0, 9, 9, 31));
        sung(book, 2, "x..x..", 2, 3, 4, 5, 6, 7);
    }

    private static void singNoSuchSyllable() {
        Check.sentence("Promise 27", "The note of syllable i of a VERSE by a TONE; NONE");
        ChoirBook book = toldBook(1);
        sung(book, 0, "x./x.", 5, 7, 5, 7);
        int[] wrong = {-1, 4, 59, 60, 61, EXTREMES[0], EXTREMES[1]};
        for (int i : wrong) {
            Check.refused("syllable " + i, book.sing(0, 0, i));
        }
        book.syllable(0, false);
        Check.due("one more", book.sing(0, 0, 4), 7);
        Check.refused("none behind it", book.sing(0, 0, 5));
    }
}
