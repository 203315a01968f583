/** The boundaries of Terms III and of promises 13 to 20: a test for each sentence. */
public final class EdgesOfPsalmsTest {
    private static final int[] EXTREMES = {Integer.MIN_VALUE, Integer.MAX_VALUE};

    public static void main(String[] args) {
        psalms1To150();
        verses1To200();
        hours1To8();
        hoursRefusedWhereAPsalmIsFixed();
        hoursRefusedWhereAPsalmIsFestal();
        fixedPsalmsBelongToAnHourOfEachDay();
        fixTellsWhereItWas();
        fixNoSuchPsalmOrHour();
        festalAtMost6OfAnHour();
        festalNoneBehind6();
        dealtAreAllThatAreNotFixed();
        anHourWithNone();
        limitIsTheLeastNumber();
        eachHourTakesAsManyAsLimitLetsIt();
        feastRank1To10();
        feastRankOrMore();
        festalInPlaceOfDealt();
        fixedOnesBehindThemAlways();
        dealtWhat0To3();
        dealtOfNoSuchHour();
        sungInOrder();
        sungOfNoSuchDayOrHour();
        timesFromADayToAnother();
        timesOfNoSuchDays();
        Check.end("EdgesOfPsalmsTest");
    }

    private static void psalms1To150() {
        Check.sentence("Terms", "PSALMS 1 .. 150 have VERSES (1 .. 200; 10 at first).");
        ChoirBook book = new ChoirBook();
        int[] told = {1, 150};
        for (int psalm : told) {
            Check.due("verses of " + psalm, book.verses(psalm, 10), 10);
            Check.due("fix " + psalm, book.fix(psalm, -1), -1);
            Check.due("times of " + psalm, book.times(2024, 0, 6, psalm), 1);
        }
        Check.due("festal 1", book.festal(0, 1), 1);
        Check.due("festal 150", book.festal(0, 150), 2);
        int[] wrong = {0, 151, -1, EXTREMES[0], EXTREMES[1]};
        for (int psalm : wrong) {
            Check.refused("verses of " + psalm, book.verses(psalm, 10));
            Check.due("fix " + psalm, book.fix(psalm, 0), -2);
            Check.refused("festal " + psalm, book.festal(0, psalm));
            Check.refused("times of " + psalm, book.times(2024, 0, 6, psalm));
        }
        Check.due("the last psalm that is dealt", book.dealt(5, 2, 0) + book.dealt(5, 2, 1) - 1, 150);
    }

    private static void verses1To200() {
        Check.sentence("Promise 13", "VERSES of a PSALM: what they were; NONE.");
        ChoirBook book = new ChoirBook();
        Check.due("10 at first", book.verses(1, 1), 10);
        Check.due("1", book.verses(1, 200), 1);
        Check.due("200", book.verses(1, 200), 200);
        int[] wrong = {0, 201, -1, EXTREMES[0], EXTREMES[1]};
        for (int many : wrong) {
            Check.refused("so many as " + many, book.verses(1, many));
        }
        Check.due("200 still", book.verses(1, 5), 200);
        Check.due("another psalm has its own", book.verses(2, 5), 10);
        for (int psalm = 1; psalm <= 150; psalm++) {
            book.verses(psalm, 200);
        }
        // 49 hours: 37 take four of 200.
        Check.due("all of 200", book.dealt(0, 0, 3), 800);
        for (int psalm = 1; psalm <= 150; psalm++) {
            book.verses(psalm, 1);
        }
        Check.due("all of 1", book.dealt(0, 0, 3), 4);
    }

    private static void hours1To8() {
        Check.sentence("Terms", "There are HOURS a day, 1 .. 8 (7 at first).");
        ChoirBook book = new ChoirBook();
        Check.due("the seventh", book.dealt(0, 6, 1), 4);
        Check.refused("no eighth", book.dealt(0, 7, 1));
        Check.due("7 at first", book.hours(8), 7);
        Check.due("the eighth", book.dealt(0, 7, 1), 3);
        Check.refused("no ninth", book.dealt(0, 8, 1));
        Check.due("8", book.hours(1), 8);
        Check.due("the first", book.dealt(0, 0, 1), 22);
        Check.refused("no second", book.dealt(0, 1, 1));
        Check.refused("none sung", book.sung(2024, 0, 1, 0));
        Check.refused("none festal", book.festal(1, 1));
        Check.due("none to be fixed at", book.fix(1, 1), -2);
        int[] wrong = {0, 9, -1, EXTREMES[0], EXTREMES[1]};
        for (int many : wrong) {
            Check.refused("hours " + many, book.hours(many));
        }
        Check.due("1 still", book.hours(1), 1);
    }

    private static void hoursRefusedWhereAPsalmIsFixed() {
        Check.sentence("Promise 14", "HOURS a day: what they were; NONE: not 1 .. 8, or a psalm is FIXED, FESTAL at an HOUR that goes.");
        int[] psalms = {1, 77, 150};
        for (int psalm : psalms) {
            ChoirBook book = new ChoirBook();
            book.hours(8);
            book.fix(psalm, 7);
            Check.refused("the last hour has " + psalm, book.hours(7));
            Check.due("it does not go", book.hours(8), 8);
            book.fix(psalm, 3);
            Check.refused("hour 3 goes", book.hours(3));
            Check.refused("hours 1 to 7 go", book.hours(1));
            Check.due("hour 3 does not go", book.hours(4), 8);
            book.fix(psalm, 0);
            Check.due("hour 0 never goes", book.hours(1), 4);
            book.hours(2);
            book.fix(psalm, 1);
            book.fix(psalm, -1);
            Check.due("it is not fixed any more", book.hours(1), 2);
        }
    }

    private static void hoursRefusedWhereAPsalmIsFestal() {
        Check.sentence("Promise 14", "or a psalm is FIXED, FESTAL at an HOUR that goes.");
        ChoirBook book = new ChoirBook();
        book.hours(8);
        book.festal(0, 1);
        Check.due("hour 0 never goes", book.hours(1), 8);
        book.hours(8);
        book.festal(3, 1);
        Check.refused("hour 3 goes", book.hours(3));
        Check.refused("hours 1 to 7 go", book.hours(1));
        Check.due("hour 3 does not go", book.hours(4), 8);
        book.hours(8);
        book.festal(7, 1);
        Check.refused("the last hour goes", book.hours(7));
        Check.due("8 still", book.hours(8), 8);
    }

    private static void fixedPsalmsBelongToAnHourOfEachDay() {
        Check.sentence("Terms", "FIXED psalms belong to an HOUR of each day");
        ChoirBook book = new ChoirBook();
        book.fix(150, 6);
        Check.due("each day of 2024", book.times(2024, 0, 365, 150), 366);
        Check.due("each day of 2023", book.times(2023, 0, 364, 150), 365);
        for (int day = 0; day < 7; day++) {
            int many = book.dealt((day + 1) % 7, 6, 1);
            Check.due("behind what is dealt on day " + day, book.sung(2024, day, 6, many), 150);
        }
        book.fix(150, 0);
        Check.due("each day once", book.times(2024, 0, 365, 150), 366);
        // Dealt at first, it leaves its place in the week.
        ChoirBook dealt = new ChoirBook();
        Check.due("dealt to Friday", dealt.times(2024, 0, 6, 150), 1);
        dealt.fix(150, 0);
        for (int day = 0; day < 7; day++) {
            Check.due("fixed, once on day " + day, dealt.times(2024, day, day, 150), 1);
        }
    }

    private static void fixTellsWhereItWas() {
        Check.sentence("Promise 15", "A PSALM is FIXED at an HOUR (NONE: it is not any more): where it was (NONE).");
        ChoirBook book = new ChoirBook();
        Check.due("it was not", book.fix(150, -1), -1);
        Check.due("it was not", book.fix(150, 6), -1);
        Check.due("the last hour", book.fix(150, 0), 6);
        Check.due("the first hour", book.fix(150, 0), 0);
        Check.due("it is not any more", book.fix(150, -1), 0);
        Check.due("it was not", book.fix(150, -1), -1);
        Check.due("it is dealt again", book.times(2024, 0, 6, 150), 1);
    }

    private static void fixNoSuchPsalmOrHour() {
        Check.sentence("Promise 15", "-2: no such PSALM, HOUR.");
        ChoirBook book = new ChoirBook();
        int[] psalms = {0, 151, -1, EXTREMES[0], EXTREMES[1]};
        for (int psalm : psalms) {
            Check.due("psalm " + psalm, book.fix(psalm, 0), -2);
            Check.due("psalm " + psalm + " not any more", book.fix(psalm, -1), -2);
        }
        int[] hours = {7, 8, -2, EXTREMES[0], EXTREMES[1]};
        for (int hour : hours) {
            Check.due("hour " + hour, book.fix(1, hour), -2);
        }
        book.hours(8);
        Check.due("the eighth hour", book.fix(1, 7), -1);
        Check.due("no ninth", book.fix(1, 8), -2);
        Check.due("it is where it was", book.fix(1, 0), 7);
    }

    private static void festalAtMost6OfAnHour() {
        Check.sentence("Terms", "FESTAL ones, at most 6 of an HOUR, are told for it");
        ChoirBook book = new ChoirBook();
        book.feast(0, 102, 9, 0, 2);
        for (int hour = 0; hour < 7; hour += 6) {
            for (int i = 1; i <= 6; i++) {
                Check.due("festal " + i + " of hour " + hour, book.festal(hour, 150 - 10 * hour - i), i);
            }
            Check.refused("a seventh of hour " + hour, book.festal(hour, 150));
            for (int i = 1; i <= 6; i++) {
                Check.due("sung at hour " + hour, book.sung(2024, 1, hour, i - 1), 150 - 10 * hour - i);
            }
            Check.refused("no seventh sung", book.sung(2024, 1, hour, 6));
        }
        Check.due("another hour has its own", book.festal(3, 150), 1);
        Check.due("it", book.sung(2024, 1, 3, 0), 150);
        Check.refused("none ahead of it", book.sung(2024, 1, 3, -1));
        Check.refused("none behind it", book.sung(2024, 1, 3, 1));
        Check.refused("none ahead of six", book.sung(2024, 1, 6, -1));
    }

    private static void festalNoneBehind6() {
        Check.sentence("Promise 16", "One more FESTAL psalm of an HOUR: how many; NONE (6, or no such).");
        ChoirBook book = new ChoirBook();
        int[] hours = {-1, 7, 8, EXTREMES[0], EXTREMES[1]};
        for (int hour : hours) {
            Check.refused("hour " + hour, book.festal(hour, 1));
        }
        int[] psalms = {0, 151, -1, EXTREMES[0], EXTREMES[1]};
        for (int psalm : psalms) {
            Check.refused("psalm " + psalm, book.festal(6, psalm));
        }
        for (int i = 1; i <= 6; i++) {
            Check.due("the same one, " + i, book.festal(6, 1), i);
        }
        Check.refused("6", book.festal(6, 2));
        book.hours(8);
        Check.due("the eighth hour", book.festal(7, 1), 1);
    }

    private static void dealtAreAllThatAreNotFixed() {
        Check.sentence("Terms", "DEALT are all psalms that are not FIXED, in order, to the HOURS of a week, Sunday's first one first");
        ChoirBook book = new ChoirBook();
        book.fix(1, 0);
        book.fix(5, 0);
        book.fix(150, 6);
        // 147 psalms by threes fill the 49 hours.
        Check.due("limit", book.dealt(0, 0, 3), 30);
        Check.due("Sunday's first", book.dealt(0, 0, 0), 2);
        Check.due("Sunday's second, past the fixed one", book.dealt(0, 1, 0), 6);
        Check.due("Saturday's last", book.dealt(6, 6, 0), 147);
        Check.due("three of them", book.dealt(6, 6, 1), 3);
        Check.due("a festal one is dealt too", book.festal(0, 149), 1);
        Check.due("Saturday's last", book.dealt(6, 6, 1), 3);
        book.fix(149, 6);
        Check.due("now it is not", book.dealt(6, 6, 1), 2);
    }

    private static void anHourWithNone() {
        Check.sentence("Terms", "each HOUR a row of them (perhaps none)");
        ChoirBook book = new ChoirBook();
        Check.due("Friday's third is the last", book.dealt(5, 2, 1), 2);
        Check.due("Friday's fourth has none", book.dealt(5, 3, 1), 0);
        Check.due("no first", book.dealt(5, 3, 0), -1);
        Check.due("no verses", book.dealt(5, 3, 2), 0);
        Check.due("Saturday's last has none", book.dealt(6, 6, 1), 0);
        Check.refused("nothing sung", book.sung(2024, 5, 6, 0));
        for (int psalm = 1; psalm <= 150; psalm++) {
            book.fix(psalm, 0);
        }
        Check.due("all fixed: limit", book.dealt(0, 0, 3), 0);
        Check.due("all fixed: none", book.dealt(0, 0, 1), 0);
        Check.due("all fixed: no first", book.dealt(0, 0, 0), -1);
        Check.due("all fixed: the last sung", book.sung(2024, 6, 0, 149), 150);
        Check.refused("all fixed: none behind", book.sung(2024, 6, 0, 150));
        Check.refused("all fixed: none elsewhere", book.sung(2024, 6, 1, 0));
        book.fix(150, -1);
        Check.due("one left: limit", book.dealt(0, 0, 3), 10);
        Check.due("one left: Sunday's first", book.dealt(0, 0, 0), 150);
        Check.due("one left: Sunday's second", book.dealt(0, 1, 0), -1);
    }

    private static void limitIsTheLeastNumber() {
        Check.sentence("Terms", "LIMIT is the least number for which all come to HOURS of no more VERSES together");
        ChoirBook book = new ChoirBook();
        book.hours(1);
        Check.due("150 tens to 7 hours", book.dealt(0, 0, 3), 220);
        book.hours(8);
        Check.due("150 tens to 56 hours", book.dealt(0, 0, 3), 30);
        book.verses(150, 200);
        Check.due("no less than the greatest psalm", book.dealt(0, 0, 3), 200);
        ChoirBook few = new ChoirBook();
        few.hours(1);
        for (int psalm = 9; psalm <= 150; psalm++) {
            few.fix(psalm, 0);
        }
        // Eight psalms to seven hours: two that stand together are sung together.
        int[] verses = {20, 13, 30, 9, 5, 40, 11, 60};
        for (int i = 0; i < verses.length; i++) {
            few.verses(i + 1, verses[i]);
        }
        Check.due("the greatest alone", few.dealt(0, 0, 3), 60);
        for (int psalm = 1; psalm <= 7; psalm++) {
            few.verses(psalm, 30);
        }
        few.verses(8, 1);
        Check.due("30 and 1 together", few.dealt(0, 0, 3), 31);
        Check.due("each alone", few.dealt(5, 0, 1), 1);
        Check.due("but on Saturday", few.dealt(6, 0, 1), 2);
    }

    private static void eachHourTakesAsManyAsLimitLetsIt() {
        Check.sentence("Terms", "each HOUR takes as many as LIMIT lets it");
        ChoirBook book = new ChoirBook();
        Check.due("four of ten are 40", book.dealt(0, 0, 2), 40);
        book.verses(4, 11);
        Check.due("limit", book.dealt(0, 0, 3), 40);
        Check.due("41 are too many", book.dealt(0, 0, 1), 3);
        Check.due("30 verses", book.dealt(0, 0, 2), 30);
        Check.due("the next hour has it", book.dealt(0, 1, 0), 4);
        Check.due("with two more", book.dealt(0, 1, 1), 3);
        Check.due("31 verses", book.dealt(0, 1, 2), 31);
        book.verses(4, 9);
        Check.due("39 verses, and ten more are too many", book.dealt(0, 0, 2), 39);
    }

    private static void feastRank1To10() {
        Check.sentence("Promise 17", "FEAST RANK: what it was; NONE.");
        ChoirBook book = new ChoirBook();
        Check.due("7 at first", book.limit(1), 7);
        Check.due("1", book.limit(10), 1);
        int[] wrong = {0, 11, -1, EXTREMES[0], EXTREMES[1]};
        for (int rank : wrong) {
            Check.refused("rank " + rank, book.limit(rank));
        }
        Check.due("10 still", book.limit(10), 10);
    }

    private static void feastRankOrMore() {
        Check.sentence("Terms", "On a day whose OFFICE's RANK is FEAST RANK (7 at first, 1 .. 10) or more");
        ChoirBook book = new ChoirBook();
        // Ranks 1 to 9 on Tuesday, 2 January 2024, to the 10th; 1 January is of rank 0.
        book.season(-120, 250, 1, 0, 0);
        for (int rank = 1; rank <= 9; rank++) {
            book.feast(0, 101 + rank, rank, 0, 2);
        }
        // Fixed, it is sung once on each day; festal, it is sung once more.
        book.fix(150, 6);
        book.festal(0, 150);
        for (int rank = 0; rank <= 9; rank++) {
            Check.due("7 at first, rank " + rank, book.times(2024, rank, rank, 150), rank >= 7 ? 2 : 1);
        }
        for (int limit = 1; limit <= 10; limit++) {
            book.limit(limit);
            for (int rank = 0; rank <= 9; rank++) {
                Check.due("limit " + limit + ", rank " + rank, book.times(2024, rank, rank, 150), rank >= limit ? 2 : 1);
            }
        }
        book.limit(9);
        Check.due("sung at rank 9", book.sung(2024, 9, 0, 0), 150);
        book.limit(10);
        Check.due("not with 10", book.sung(2024, 9, 0, 0), book.dealt(3, 0, 0));
    }

    private static void festalInPlaceOfDealt() {
        Check.sentence("Terms", "an HOUR with FESTAL psalms has these in place of the DEALT ones.");
        ChoirBook book = new ChoirBook();
        book.feast(0, 107, 9, 0, 2);
        book.festal(1, 150);
        Check.due("an hour without has the dealt ones", book.sung(2024, 6, 0, 0), 1);
        Check.due("all of them", book.sung(2024, 6, 0, 3), 4);
        Check.due("an hour with one has it", book.sung(2024, 6, 1, 0), 150);
        Check.refused("it alone", book.sung(2024, 6, 1, 1));
        Check.due("on the Sunday behind it has the dealt ones", book.sung(2024, 13, 1, 0), 5);
        Check.due("not sung on that day", book.times(2024, 6, 6, 5), 0);
        Check.due("sung on the other Sundays", book.times(2024, 0, 365, 5), 51);
    }

    private static void fixedOnesBehindThemAlways() {
        Check.sentence("Terms", "(FIXED ones behind them, always.)");
        ChoirBook book = new ChoirBook();
        book.feast(0, 107, 9, 0, 2);
        book.fix(150, 0);
        book.fix(149, 0);
        book.festal(0, 20);
        int[] festive = {20, 149, 150, -1};
        // 148 psalms come to 49 hours by fours.
        int[] plain = {1, 2, 3, 4, 149, 150, -1};
        for (int i = 0; i < festive.length; i++) {
            Check.due("festive " + i, book.sung(2024, 6, 0, i), festive[i]);
        }
        for (int i = 0; i < plain.length; i++) {
            Check.due("plain " + i, book.sung(2024, 13, 0, i), plain[i]);
        }
        book.fix(148, 6);
        Check.due("without any dealt", book.sung(2024, 5, 6, book.dealt(6, 6, 1)), 148);
        book.festal(0, 150);
        Check.due("festal and fixed", book.times(2024, 6, 6, 150), 2);
        Check.due("festal", book.sung(2024, 6, 0, 1), 150);
        Check.due("fixed", book.sung(2024, 6, 0, 3), 150);
    }

    private static void dealtWhat0To3() {
        Check.sentence("Promise 18", "As it is DEALT: the first psalm of an HOUR of a weekday (what 0; NONE if it has none), how many (1), their VERSES (2); LIMIT (3; the others are not looked at). NONE.");
        ChoirBook book = new ChoirBook();
        int[] due = {5, 4, 40, 40};
        for (int what = 0; what <= 3; what++) {
            Check.due("what " + what, book.dealt(0, 1, what), due[what]);
        }
        int[] wrong = {-1, 4, EXTREMES[0], EXTREMES[1]};
        for (int what : wrong) {
            Check.refused("what " + what, book.dealt(0, 1, what));
            Check.due("LIMIT by " + what, book.dealt(what, what, 3), 40);
        }
    }

    private static void dealtOfNoSuchHour() {
        Check.sentence("Promise 18", "LIMIT (3; the others are not looked at). NONE.");
        ChoirBook book = new ChoirBook();
        int[] wrong = {-1, 7, 8, EXTREMES[0], EXTREMES[1]};
        for (int what = 0; what <= 2; what++) {
            for (int w : wrong) {
                Check.refused("weekday " + w + " what " + what, book.dealt(w, 0, what));
                Check.refused("hour " + w + " what " + what, book.dealt(0, w, what));
            }
        }
        Check.due("the last weekday's last hour", book.dealt(6, 6, 1), 0);
    }

    private static void sungInOrder() {
        Check.sentence("Promise 19", "Psalm i that is sung at an HOUR of a day of a YEAR, in order; NONE.");
        ChoirBook book = new ChoirBook();
        for (int i = 0; i < 4; i++) {
            Check.due("i " + i, book.sung(2024, 6, 0, i), 1 + i);
        }
        int[] wrong = {-1, 4, 5, EXTREMES[0], EXTREMES[1]};
        for (int i : wrong) {
            Check.refused("i " + i, book.sung(2024, 6, 0, i));
            Check.refused("i " + i + " of the next hour", book.sung(2024, 6, 1, i));
            Check.refused("i " + i + " of a weekday", book.sung(2024, 8, 3, i));
        }
        // 2023 begins with a Sunday, and ends with one.
        Check.due("day 0", book.sung(2023, 0, 0, 0), 1);
        Check.due("the last day", book.sung(2023, 364, 0, 0), 1);
        Check.due("the last of 2024, a Tuesday", book.sung(2024, 365, 0, 0), 57);
        Check.due("two in an hour", book.sung(2024, 4, 2, 1), 150);
        Check.refused("no third", book.sung(2024, 4, 2, 2));
    }

    private static void sungOfNoSuchDayOrHour() {
        Check.sentence("Promise 19", "in order; NONE.");
        ChoirBook book = new ChoirBook();
        int[][] wrong = {
            {1899, 0, 0}, {2200, 0, 0}, {2024, -1, 0}, {2024, 366, 0}, {2023, 365, 0}, {2024, 6, -1}, {2024, 6, 7},
            {2024, EXTREMES[0], 0}, {2024, EXTREMES[1], 0}, {2024, 6, EXTREMES[0]}, {2024, 6, EXTREMES[1]}};
        for (int[] w : wrong) {
            Check.refused("hour " + w[2] + " of day " + w[1] + " of " + w[0], book.sung(w[0], w[1], w[2], 0));
        }
        book.hours(8);
        Check.due("an eighth hour", book.sung(2024, 6, 7, 0), 22);
        Check.refused("no ninth", book.sung(2024, 6, 8, 0));
    }

    private static void timesFromADayToAnother() {
        Check.sentence("Promise 20", "How often a PSALM is sung from a day of a YEAR to another one; NONE.");
        ChoirBook book = new ChoirBook();
        Check.due("one day", book.times(2024, 6, 6, 1), 1);
        Check.due("to the day ahead of the next Sunday", book.times(2024, 6, 12, 1), 1);
        Check.due("to the next Sunday", book.times(2024, 6, 13, 1), 2);
        Check.due("from the day behind", book.times(2024, 7, 13, 1), 1);
        Check.due("without a Sunday", book.times(2024, 7, 12, 1), 0);
        Check.due("from day 0 to the last", book.times(2024, 0, 365, 1), 52);
        Check.due("both ends of 2023 are Sundays", book.times(2023, 0, 364, 1), 53);
        Check.due("without the first", book.times(2023, 1, 364, 1), 52);
        Check.due("without the last", book.times(2023, 0, 363, 1), 52);
        // Each psalm is sung on its weekday alone, the last one of a day and the first one of the next among them.
        for (int weekday = 0; weekday < 5; weekday++) {
            int last = book.dealt(weekday + 1, 0, 0) - 1;
            Check.due("the last of " + weekday, book.times(2023, weekday, weekday, last), 1);
            Check.due("not on the next", book.times(2023, weekday + 1, weekday + 1, last), 0);
            Check.due("the first of the next", book.times(2023, weekday + 1, weekday + 1, last + 1), 1);
            Check.due("not on " + weekday, book.times(2023, weekday, weekday, last + 1), 0);
        }
        book.festal(0, 1);
        book.festal(0, 1);
        book.festal(6, 1);
        book.fix(1, 5);
        book.feast(0, 101, 9, 0, 2);
        Check.due("thrice festal, and fixed", book.times(2024, 0, 0, 1), 4);
    }

    private static void timesOfNoSuchDays() {
        Check.sentence("Promise 20", "to another one; NONE.");
        ChoirBook book = new ChoirBook();
        int[][] wrong = {
            {1899, 0, 0, 1}, {2200, 0, 0, 1}, {2024, -1, 0, 1}, {2024, 0, 366, 1}, {2023, 0, 365, 1}, {2024, 366, 366, 1},
            {2024, 0, 0, 0}, {2024, 0, 0, 151}, {2024, 7, 6, 1}, {2024, EXTREMES[0], 5, 1}, {2024, 0, EXTREMES[1], 1},
            {2024, 5, EXTREMES[0], 1}, {2024, EXTREMES[1], 5, 1}};
        for (int[] w : wrong) {
            Check.refused("psalm " + w[3] + " from " + w[1] + " to " + w[2] + " of " + w[0], book.times(w[0], w[1], w[2], w[3]));
        }
    }
}
