import java.util.NoSuchElementException;

/** The edges of days, places, sorts and odds (promises 6 to 14, 34 to 36), sentence by sentence. */
public final class GuestEdgesTest {
    private static final Checks checks = new Checks();
    private static final int NO_GUEST = -1001;
    private static final int NO_WHAT = -1002;
    private static final int SOMETHING_ELSE = -1003;
    /** In year 0, with turn 0, the months begin with these days, and so with these rounds but for whole sixties. */
    private static final int[] BEGINS = {0, 30, 59, 89, 118, 148, 177, 207, 236, 266, 295, 325};

    public static void main(String[] args) {
        lookAtAll();
        lookWithout();
        noGuestToLookAt();
        nothingToLookAt();
        monthsBegin();
        monthsEnd();
        yearsBegin();
        rounds();
        noSuchDay();
        yearOfAGuest();
        dayCannotBe();
        roundsWrapInAMonth();
        dayOfNoGuest();
        months();
        monthsOfARock();
        monthsOfNoGuest();
        howManyYears();
        kthYear();
        noSuchYears();
        yearsOfARock();
        placesGoRound();
        placesStayAtTheEnd();
        placesByReadings();
        placesWithout();
        noSuchPlaces();
        firstSort();
        sortsWithErrors();
        noSort();
        sortOfNoGuest();
        mended();
        mendedByOthers();
        mendHasADay();
        mendOfARock();
        noSuchMend();
        oddsBounds();
        oddsErrors();
        oddsNoughtByNought();
        oddsLeastTerms();
        noSuchOdds();
        sun();
        noSuchSun();
        hiddenTenAtMost();
        hiddenWithout();
        seen();
        noSuchX();
        checks.finish("GuestEdgesTest");
    }

    private static void lookAtAll() {
        checks.sentence("6. what 0 YEAR, 1 MONTH, .. 12 the last of its YEARS (its YEAR, but of a ROCK)");
        GuestStars stars = checks.told("reign q 0 9;reign r 1900 60;gate f 0 0;gate g 1 1;book a;book b;"
            + "guest r 60 12 59 near g 20 south west lasts 999 bright 20 moves 99 tail worth 1 in b;"
            + "rock 1 1999 near f 1 north east lasts 1 in a;guest q 1 1 0 bright 0 moves 0;");
        checks.row("look(0)", new long[] {1959, 12, 59, 1, 20, 10, 999, 20, 99, 1, 1, 1, 1959}, what -> stars.look(0, what));
        checks.row("look(1)", new long[] {1, 0, 0, 0, 1, 5, 1, 0, 0, 0, 9, 0, 1999}, what -> stars.look(1, what));
        checks.row("look(2)", new long[] {0, 1, 0, -1, 0, 0, 0, 0, 0, 0, 9, -1, 0}, what -> stars.look(2, what));
    }

    private static void lookWithout() {
        checks.sentence("6. 3 GATE (NONE), 11 BOOK (NONE)");
        GuestStars stars = checks.told("gate g 0 0;book b;rock 0 0;rock 0 0 near g 1 east;rock 0 0 in b;");
        checks.row("gate", new long[] {-1, 0, -1}, guest -> stars.look(guest, 3));
        checks.row("book", new long[] {-1, -1, 0}, guest -> stars.look(guest, 11));
    }

    /** What look answers, or which of its exceptions it throws (just that class, not one below it). */
    private static long looked(GuestStars stars, int guest, int what) {
        try {
            return stars.look(guest, what);
        } catch (RuntimeException e) {
            return e.getClass() == IndexOutOfBoundsException.class ? NO_GUEST
                : e.getClass() == NoSuchElementException.class ? NO_WHAT : SOMETHING_ELSE;
        }
    }

    private static void noGuestToLookAt() {
        checks.sentence("6. IndexOutOfBoundsException: no such GUEST");
        GuestStars none = new GuestStars();
        checks.refused("look at none", 0, NO_GUEST, guest -> looked(none, guest, 0));
        checks.due("look at the first of none", looked(none, 0, 12), NO_GUEST);
        GuestStars stars = checks.told("rock 1 1;rock 2 2;");
        for (int what = 0; what <= 12; what++) {
            int asked = what;
            checks.refused("look at " + what, 2, NO_GUEST, guest -> looked(stars, guest, asked));
        }
        checks.due("look(1, 0)", looked(stars, 1, 0), 2);
        checks.due("look(12, 0)", looked(stars, 12, 0), NO_GUEST);
    }

    private static void nothingToLookAt() {
        checks.sentence("6. NoSuchElementException: no such what");
        GuestStars stars = checks.told("rock 1 1;rock 2 2;");
        checks.refused("look(0)", 13, NO_WHAT, what -> looked(stars, 0, what));
        checks.refused("look(1)", 13, NO_WHAT, what -> looked(stars, 1, what));
        checks.due("look(0, 12)", looked(stars, 0, 12), 1);
        checks.due("after it all goes on", stars.count(2), 2);
    }

    private static GuestStars yearNought(String guests) {
        return checks.told("reign r 0 1;" + guests);
    }

    private static void monthsBegin() {
        checks.sentence("MONTH m (1 .. 12) of it 29 (m less 1) and m by 2, cut, later");
        StringBuilder guests = new StringBuilder();
        for (int month = 1; month <= 12; month++) {
            guests.append("guest r 1 ").append(month).append(' ').append(BEGINS[month - 1] % 60).append(';');
        }
        GuestStars stars = yearNought(guests.toString());
        for (int month = 1; month <= 12; month++) {
            checks.due("the first day of month " + month, stars.day(month - 1), BEGINS[month - 1]);
        }
        StringBuilder ahead = new StringBuilder();
        for (int month = 1; month <= 12; month++) {
            ahead.append("guest r 1 ").append(month).append(' ').append((BEGINS[month - 1] + 59) % 60).append(';');
        }
        GuestStars before = yearNought(ahead.toString());
        for (int month = 1; month <= 12; month++) {
            checks.due("the day ahead of month " + month, before.day(month - 1), -1);
        }
    }

    private static void monthsEnd() {
        checks.sentence("odd MONTHS have 30 days, even ones 29");
        StringBuilder last = new StringBuilder();
        StringBuilder behind = new StringBuilder();
        for (int month = 1; month <= 12; month++) {
            int end = BEGINS[month - 1] + (month % 2 == 1 ? 29 : 28);
            last.append("guest r 1 ").append(month).append(' ').append(end % 60).append(';');
            behind.append("guest r 1 ").append(month).append(' ').append((end + 1) % 60).append(';');
        }
        GuestStars stars = yearNought(last.toString());
        GuestStars later = yearNought(behind.toString());
        for (int month = 1; month <= 12; month++) {
            checks.due("the last day of month " + month, stars.day(month - 1), BEGINS[month - 1] + (month % 2 == 1 ? 29 : 28));
            checks.due("the day behind month " + month, later.day(month - 1), -1);
        }
    }

    private static void yearsBegin() {
        checks.sentence("YEAR y (0 .. 1999) begins on day 354 y");
        // The days 0, 354, 1900 * 354 and 1959 * 354 have the rounds 0, 54, 0 and 6.
        GuestStars stars = checks.told("reign a 0 2;reign b 1900 60;guest a 1 1 0;guest a 2 1 54;guest b 1 1 0;guest b 60 1 6;"
            + "guest a 1 12 53;guest b 60 12 59;guest a 2 1 53;");
        checks.row("day", new long[] {0, 354, 672600, 693486, 353, 693839, -1}, stars::day);
    }

    private static void rounds() {
        checks.sentence("ROUND of a day: the day and TURN, modulo 60");
        GuestStars stars = new GuestStars();
        checks.due("round(0)", stars.round(0), 0);
        checks.due("round(59)", stars.round(59), 59);
        checks.due("round(60)", stars.round(60), 0);
        checks.due("round(119)", stars.round(119), 59);
        GuestStars turned = checks.told("turn 59;");
        checks.due("turned: round(0)", turned.round(0), 59);
        checks.due("turned: round(1)", turned.round(1), 0);
        checks.due("turned: round(61)", turned.round(61), 0);
        checks.due("turned: round(60)", turned.round(60), 59);
    }

    private static void noSuchDay() {
        checks.sentence("7. ROUND of a day (0 .. 707999); NONE: no such day");
        GuestStars stars = checks.told("turn 1;");
        checks.due("round(0)", stars.round(0), 1);
        checks.due("round(707999)", stars.round(707999), 0);
        checks.refused("round", 708000, -1, stars::round);
    }

    private static void yearOfAGuest() {
        checks.sentence("A GUEST's YEAR: its REIGN's first and its year less 1");
        GuestStars stars = checks.told("reign a 0 60;reign b 1900 60;guest a 1 1 0;guest a 60 1 0;guest b 1 1 0;guest b 60 1 0;");
        checks.row("look", new long[] {0, 59, 1900, 1959}, guest -> stars.look(guest, 0));
    }

    private static void dayCannotBe() {
        checks.sentence("8. A GUEST's DAY; NONE: it can't be");
        GuestStars stars = yearNought("guest r 1 1 0;guest r 1 1 29;guest r 1 1 30;guest r 1 1 59;guest r 1 2 29;guest r 1 2 30;"
            + "guest r 1 2 58;guest r 1 2 59;rock 0 0;");
        checks.row("day", new long[] {0, 29, -1, -1, -1, 30, 58, -1, -1}, stars::day);
    }

    private static void roundsWrapInAMonth() {
        checks.sentence("DAY: the one of its MONTH in that YEAR with its ROUND (there is one at most)");
        // Month 1 of year 0 has the rounds 45 to 59 and 0 to 14.
        GuestStars stars = checks.told("turn 45;reign r 0 1;guest r 1 1 45;guest r 1 1 59;guest r 1 1 0;guest r 1 1 14;guest r 1 1 15;"
            + "guest r 1 1 44;guest r 1 1 30;");
        checks.row("day", new long[] {0, 14, 15, 29, -1, -1, -1}, stars::day);
    }

    private static void dayOfNoGuest() {
        checks.sentence("8. -2: no such GUEST");
        GuestStars stars = yearNought("guest r 1 1 0;rock 0 0;");
        checks.refused("day", 2, -2, stars::day);
        checks.refused("day of none", 0, -2, new GuestStars()::day);
    }

    private static void months() {
        checks.sentence("9. MONTHS of a GUEST's YEAR that have its ROUND (bits, MONTH 1 lowest)");
        // Which round stands in which months: 24 in the odd ones, 54 in the even ones but the last, 25 and 53 at the ends.
        GuestStars stars = yearNought("guest r 1 1 24;guest r 1 1 54;guest r 1 9 25;guest r 1 3 53;guest r 1 1 29;guest r 1 1 30;");
        checks.row("months", new long[] {0b010101010101, 0b001010101010, 0b100101010101, 0b101010101010, 0b101010101001, 0b101010101010},
            stars::months);
    }

    private static void monthsOfARock() {
        checks.sentence("9. 0 of a ROCK");
        checks.due("months", checks.told("rock 0 1999;").months(0), 0);
    }

    private static void monthsOfNoGuest() {
        checks.sentence("9. NONE: no such GUEST");
        GuestStars stars = yearNought("guest r 1 1 0;rock 0 0;");
        checks.refused("months", 2, -1, stars::months);
        checks.refused("months of none", 0, -1, new GuestStars()::months);
    }

    // The years 0 to 9 begin with the rounds 0, 54, 48 .. 6, then again: month 1 has round 0 in the first five of each ten.
    private static void howManyYears() {
        checks.sentence("10. How many YEARS of its REIGN have its ROUND in its MONTH (k NONE)");
        GuestStars stars = checks.told("reign a 5 60;reign b 5 59;reign c 5 5;reign d 10 5;reign e 0 1;guest a 1 1 0;guest b 1 1 0;"
            + "guest c 1 1 0;guest d 1 1 0;guest e 1 1 0;guest e 1 1 30;");
        checks.row("years", new long[] {30, 29, 0, 5, 1, 0}, guest -> stars.years(guest, -1));
    }

    private static void kthYear() {
        checks.sentence("10. or the k-th of these");
        GuestStars stars = checks.told("reign a 5 60;reign b 10 5;reign c 1900 60;guest a 1 1 0;guest b 1 1 0;guest c 1 1 6;");
        checks.due("the first", stars.years(0, 0), 10);
        checks.due("the fifth", stars.years(0, 4), 14);
        checks.due("the sixth", stars.years(0, 5), 20);
        checks.due("the last", stars.years(0, 29), 64);
        checks.due("the first", stars.years(1, 0), 10);
        checks.due("the last", stars.years(1, 4), 14);
        checks.due("the last of the last reign", stars.years(2, stars.years(2, -1) - 1), 1959);
    }

    private static void noSuchYears() {
        checks.sentence("10. NONE: no such ones");
        GuestStars stars = checks.told("reign a 5 60;reign c 5 5;guest a 1 1 0;guest c 1 1 0;");
        checks.due("behind the last", stars.years(0, 30), -1);
        checks.due("the greatest int", stars.years(0, Integer.MAX_VALUE), -1);
        checks.due("-2", stars.years(0, -2), -1);
        checks.due("the least int", stars.years(0, Integer.MIN_VALUE), -1);
        checks.due("the first of none", stars.years(1, 0), -1);
        checks.due("-2 of none", stars.years(1, -2), -1);
        checks.refused("years, how many", 2, -1, guest -> stars.years(guest, -1));
        checks.refused("years, the first", 2, -1, guest -> stars.years(guest, 0));
    }

    private static void yearsOfARock() {
        checks.sentence("10. 0 of a ROCK");
        GuestStars stars = checks.told("reign r 0 60;rock 0 1999;");
        checks.due("how many", stars.years(0, -1), 0);
        checks.due("the first", stars.years(0, 0), -1);
    }

    private static void placesGoRound() {
        checks.sentence("east more x, west less (round)");
        GuestStars stars = checks.told("gate a 118 30;gate b 1 30;gate c 100 30;gate d 19 30;rock 0 0 near a 1 east;rock 0 0 near a 2 east;"
            + "rock 0 0 near b 1 west;rock 0 0 near b 2 west;rock 0 0 near c 20 east;rock 0 0 near d 20 west;rock 0 0 near d 19 west;");
        checks.row("x", new long[] {119, 0, 0, 119, 0, 119, 0}, guest -> stars.place(guest, 0, 0));
        checks.row("x turned", new long[] {117, 116, 2, 3, 80, 39, 38}, guest -> stars.place(guest, 1, 0));
        checks.row("y", new long[] {30, 30, 30, 30, 30, 30, 30}, guest -> stars.place(guest, 0, 1));
    }

    private static void placesStayAtTheEnd() {
        checks.sentence("north more y, south less (0 .. 59: else it stays at the end)");
        GuestStars stars = checks.told("gate a 5 57;gate b 5 2;rock 0 0 near a 2 north;rock 0 0 near a 3 north;rock 0 0 near a 20 north;"
            + "rock 0 0 near b 2 south;rock 0 0 near b 3 south;rock 0 0 near b 20 south;rock 0 0 near a 1 north;rock 0 0 near b 1 south;");
        checks.row("y", new long[] {59, 59, 59, 0, 0, 0, 58, 1}, guest -> stars.place(guest, 0, 1));
        checks.row("y turned", new long[] {55, 54, 37, 4, 5, 22, 56, 3}, guest -> stars.place(guest, 2, 1));
        checks.row("x", new long[] {5, 5, 5, 5, 5, 5, 5, 5}, guest -> stars.place(guest, 0, 0));
        GuestStars turned = checks.told("gate a 5 57;gate b 5 2;rock 0 0 near a 20 south;rock 0 0 near b 20 north;");
        checks.due("turned to the north", turned.place(0, 2, 1), 59);
        checks.due("turned to the south", turned.place(1, 3, 1), 0);
    }

    private static void placesByReadings() {
        checks.sentence("READING (0 as told, 1 east and west turned, 2 north and south, 3 both)");
        GuestStars stars = checks.told("gate g 50 30;rock 0 0 near g 5 north east;rock 0 0 near g 5 south west;rock 0 0 near g 5 north;"
            + "rock 0 0 near g 5 west;");
        long[][] xs = {{55, 45, 55, 45}, {45, 55, 45, 55}, {50, 50, 50, 50}, {45, 55, 45, 55}};
        long[][] ys = {{35, 35, 25, 25}, {25, 25, 35, 35}, {35, 35, 25, 25}, {30, 30, 30, 30}};
        for (int g = 0; g < 4; g++) {
            int guest = g;
            checks.row("x of " + g, xs[g], reading -> stars.place(guest, reading, 0));
            checks.row("y of " + g, ys[g], reading -> stars.place(guest, reading, 1));
        }
    }

    private static void placesWithout() {
        checks.sentence("11. NONE: it has no GATE");
        GuestStars stars = checks.told("gate g 0 0;reign r 0 1;guest r 1 1 0;rock 0 0;rock 0 0 near g 1 east;");
        for (int reading = 0; reading < 4; reading++) {
            checks.due("x", stars.place(0, reading, 0), -1);
            checks.due("y", stars.place(1, reading, 1), -1);
        }
        checks.due("with a gate", stars.place(2, 0, 0), 1);
    }

    private static void noSuchPlaces() {
        checks.sentence("11. NONE: no such ones");
        GuestStars stars = checks.told("gate g 7 8;rock 0 0 near g 1 east;rock 0 0 near g 1 north;");
        checks.refused("guest", 2, -1, guest -> stars.place(guest, 0, 0));
        checks.refused("reading, x", 4, -1, reading -> stars.place(0, reading, 0));
        checks.refused("reading, y", 4, -1, reading -> stars.place(0, reading, 1));
        checks.refused("what", 2, -1, what -> stars.place(1, 3, what));
        checks.due("the last reading", stars.place(1, 3, 1), 7);
    }

    private static void firstSort() {
        checks.sentence("SORT: the first SORT whose E isn't 0");
        GuestStars stars = checks.told("rock 0 0 bright 1;rock 0 0 bright 2;rock 0 0 bright 3;rock 0 0 bright 6;rock 0 0;"
            + "sort a 1 bright=1;sort b 1 bright=2;sort c 1 bright<=2;sort d 1 bright-4;sort e 1 bright;sort f 1 bright=6 or 1;");
        checks.row("sort", new long[] {0, 1, 3, 3, 2}, stars::sort);
        GuestStars low = checks.told("rock 0 0;sort a 1 0;sort b 1 0-1;sort c 1 1;");
        checks.due("below 0 isn't 0", low.sort(0), 1);
        GuestStars last = checks.told("rock 0 0;sort a 1 0;sort b 1 0;sort c 1 0;sort d 1 0;sort e 1 0;sort f 1 1;");
        checks.due("the last of six", last.sort(0), 5);
    }

    private static void sortsWithErrors() {
        checks.sentence("SORT: (not with an ERROR)");
        GuestStars stars = checks.told("rock 0 0 bright 2;rock 0 0;sort a 1 2/bright;sort b 1 not(1/bright);sort c 1 1;");
        checks.due("no error", stars.sort(0), 0);
        checks.due("an error", stars.sort(1), 2);
        GuestStars first = checks.told("rock 0 0;sort a 1 1+1/0;sort b 1 1000*1000*1000*1000*2;sort c 1 1000*1000*1000*1000;");
        checks.due("10 to the 12 is none", first.sort(0), 2);
    }

    private static void noSort() {
        checks.sentence("12. NONE: none");
        checks.due("without sorts", checks.told("rock 0 0;").sort(0), -1);
        checks.due("all 0", checks.told("rock 0 0;sort a 1 0;sort b 1 tail;").sort(0), -1);
        checks.due("all errors", checks.told("rock 0 0;sort a 1 1/0;").sort(0), -1);
        checks.due("none of six", checks.told("rock 0 0;sort a 1 0;sort b 1 1/0;sort c 1 0;sort d 1 0;sort e 1 0;sort f 1 0;").sort(0), -1);
    }

    private static void sortOfNoGuest() {
        checks.sentence("12. -2: no such GUEST");
        GuestStars stars = checks.told("rock 0 0;rock 0 0;sort a 1 1;");
        checks.refused("sort", 2, -2, stars::sort);
        checks.refused("sort of none", 0, -2, checks.told("sort a 1 1;")::sort);
    }

    private static void mended() {
        checks.sentence("13. How a GUEST without a DAY is MENDED, what 0: in how many ways, 1: by other MONTHS, 2: YEARS, 3: ROUNDS");
        // Round 30 stands in the even months of year 0 and in month 1 of the years 5 to 9; round 59 stands in the odd months
        // of year 0 but the first, and in month 2 of the years 6 to 9.
        GuestStars stars = checks.told("reign a 0 1;reign b 0 10;guest a 1 1 30;guest b 1 1 30;guest b 1 2 59;guest b 10 1 36;");
        checks.row("one year", new long[] {36, 6, 0, 30}, what -> stars.mend(0, what));
        checks.row("ten years", new long[] {41, 6, 5, 30}, what -> stars.mend(1, what));
        checks.row("an even month", new long[] {38, 5, 4, 29}, what -> stars.mend(2, what));
        checks.row("the last year", new long[] {41, 6, 5, 30}, what -> stars.mend(3, what));
    }

    private static void mendedByOthers() {
        checks.sentence("MENDED by one slip: another MONTH of the YEAR, another YEAR of the REIGN, another ROUND");
        GuestStars stars = checks.told("reign a 0 10;reign b 0 60;guest a 1 1 30;guest b 1 1 30;");
        checks.due("the months are those of the year", stars.mend(0, 1), Integer.bitCount(stars.months(0)));
        checks.due("the years are those of the reign", stars.mend(0, 2), stars.years(0, -1));
        checks.due("the years are those of the longer reign", stars.mend(1, 2), stars.years(1, -1));
        checks.due("of sixty years", stars.mend(1, 2), 30);
        checks.due("all together", stars.mend(1, 0), 6 + 30 + 30);
    }

    private static void mendHasADay() {
        checks.sentence("13. 0: it has a DAY");
        GuestStars stars = checks.told("reign a 0 10;guest a 1 1 0;guest a 1 1 29;guest a 1 2 58;");
        for (int g = 0; g < 3; g++) {
            int guest = g;
            checks.row("guest " + g, new long[] {0, 0, 0, 0}, what -> stars.mend(guest, what));
        }
    }

    private static void mendOfARock() {
        checks.sentence("(A ROCK has no DAY, and no way.)");
        GuestStars stars = checks.told("reign a 0 10;rock 0 5;");
        checks.row("mend", new long[] {0, 0, 0, 0}, what -> stars.mend(0, what));
        checks.due("day", stars.day(0), -1);
        for (int turn = 0; turn < 60; turn++) {
            GuestStars turned = checks.told("turn " + turn + ";reign a 0 60;rock 0 5;");
            checks.due("day by turn " + turn, turned.day(0), -1);
            checks.due("months by turn " + turn, turned.months(0), 0);
            checks.due("years by turn " + turn, turned.years(0, -1), 0);
            checks.due("the first year by turn " + turn, turned.years(0, 0), -1);
            checks.row("mend by turn " + turn, new long[] {0, 0, 0, 0}, what -> turned.mend(0, what));
        }
    }

    private static void noSuchMend() {
        checks.sentence("13. NONE: no such ones");
        GuestStars stars = checks.told("reign a 0 10;guest a 1 1 0;guest a 1 1 30;rock 0 0;");
        checks.refused("guest", 3, -1, guest -> stars.mend(guest, 0));
        checks.refused("guest by rounds", 3, -1, guest -> stars.mend(guest, 3));
        checks.refused("what, with a day", 4, -1, what -> stars.mend(0, what));
        checks.refused("what, without a day", 4, -1, what -> stars.mend(1, what));
        checks.refused("what, of a rock", 4, -1, what -> stars.mend(2, what));
    }

    private static void oddsBounds() {
        checks.sentence("ODDS: its E (0 .. 9999; what is below or above counts as these)");
        // The second sort weighs 1, so the first one's part by the whole is its value by one more.
        String[] rules = {"0", "1", "9999", "9999+1", "9999*9999", "0-1", "0-9999", "1000*1000*1000*1000", "0-1000*1000*1000*1000"};
        long[] values = {0, 1, 9999, 9999, 9999, 0, 0, 9999, 0};
        for (int k = 0; k < rules.length; k++) {
            GuestStars stars = checks.told("rock 0 0;sort a 1 " + rules[k] + ";sort b 1 1;");
            checks.due("above of " + rules[k], stars.odds(0, 0, 0), values[k]);
            checks.due("below of " + rules[k], stars.odds(0, 0, 1), values[k] == 0 ? 1 : values[k] + 1);
            checks.due("the other's below", stars.odds(0, 1, 1), values[k] + 1);
        }
        GuestStars most = checks.told("rock 0 0;sort a 99 9999;sort b 99 9999;sort c 99 9999;sort d 99 9999;sort e 99 9999;sort f 1 1;");
        checks.due("the most", most.odds(0, 5, 1), 5L * 99 * 9999 + 1);
    }

    private static void oddsErrors() {
        checks.sentence("ODDS: (an ERROR as 0)");
        GuestStars later = checks.told("rock 0 0;sort a 9 5+1/0;sort b 9 7 or 1/0;sort c 9 (1/0)*5;sort d 9 9-(1/0<2);sort e 1 1;");
        checks.row("above", new long[] {0, 0, 0, 0, 1}, sort -> later.odds(0, sort, 0));
        checks.row("below", new long[] {1, 1, 1, 1, 1}, sort -> later.odds(0, sort, 1));
        GuestStars stars = checks.told("rock 0 0;sort a 9 1/0;sort b 2 3;sort c 9 1000*1000*1000*1000+1;sort d 1 1;");
        checks.row("above", new long[] {0, 6, 0, 1}, sort -> stars.odds(0, sort, 0));
        checks.row("below", new long[] {1, 7, 1, 7}, sort -> stars.odds(0, sort, 1));
    }

    private static void oddsNoughtByNought() {
        checks.sentence("ODDS: (0 by 0, if that is 0)");
        GuestStars stars = checks.told("rock 0 0;sort a 9 1/0;sort b 2 0;sort c 9 0-5;");
        for (int sort = 0; sort < 3; sort++) {
            checks.due("above", stars.odds(0, sort, 0), 0);
            checks.due("below", stars.odds(0, sort, 1), 0);
        }
    }

    private static void oddsLeastTerms() {
        checks.sentence("ODDS: its WEIGHT times its E, by the sum of all SORTS', in least terms");
        GuestStars stars = checks.told("rock 0 0;sort a 4 5;sort b 6 5;sort c 10 5;");
        checks.row("above", new long[] {1, 3, 1}, sort -> stars.odds(0, sort, 0));
        checks.row("below", new long[] {5, 10, 2}, sort -> stars.odds(0, sort, 1));
        GuestStars alone = checks.told("rock 0 0;sort a 4 5;");
        checks.due("alone above", alone.odds(0, 0, 0), 1);
        checks.due("alone below", alone.odds(0, 0, 1), 1);
    }

    private static void noSuchOdds() {
        checks.sentence("14. NONE: no such ones");
        GuestStars stars = checks.told("rock 0 0;rock 0 0;sort a 4 5;sort b 4 5;sort c 4 5;");
        checks.refused("guest", 2, -1, guest -> stars.odds(guest, 0, 0));
        checks.refused("sort", 3, -1, sort -> stars.odds(0, sort, 0));
        checks.refused("sort", 3, -1, sort -> stars.odds(0, sort, 1));
        checks.refused("what", 2, -1, what -> stars.odds(0, 0, what));
        checks.refused("sort of none", 0, -1, sort -> checks.told("rock 0 0;").odds(0, sort, 1));
        checks.due("guest 0 of none", checks.told("sort a 1 1;").odds(0, 0, 0), -1);
    }

    private static void sun() {
        checks.sentence("THE SUN's x on a day: the day modulo 354 times 120 by 354, cut");
        GuestStars stars = new GuestStars();
        int[] days = {0, 2, 3, 5, 6, 176, 177, 350, 351, 353, 354, 356, 357, 707};
        int[] suns = {0, 0, 1, 1, 2, 59, 60, 118, 118, 119, 0, 0, 1, 119};
        for (int k = 0; k < days.length; k++) {
            checks.due("sun(" + days[k] + ")", stars.sun(days[k]), suns[k]);
        }
    }

    private static void noSuchSun() {
        checks.sentence("34. NONE: no such day");
        GuestStars stars = new GuestStars();
        checks.due("the first day", stars.sun(0), 0);
        checks.due("the last day", stars.sun(707999), 119);
        checks.refused("sun", 708000, -1, stars::sun);
    }

    private static void hiddenTenAtMost() {
        checks.sentence("HIDDEN: x is 10 at most from it (round)");
        // On day 0 the sun is at 0, on day 353 at 119, on day 30 (round 30 of month 2) at 10.
        GuestStars stars = yearNought("gate a 0 0;gate b 119 59;gate c 10 30;guest r 1 1 0 near a 10 east;guest r 1 1 0 near a 11 east;"
            + "guest r 1 1 0 near a 10 west;guest r 1 1 0 near a 11 west;guest r 1 1 0 near a 20 north;"
            + "guest r 1 12 53 near b 10 east;guest r 1 12 53 near b 11 east;guest r 1 12 53 near b 10 west;guest r 1 12 53 near b 11 west;"
            + "guest r 1 2 30 near c 10 west south;guest r 1 2 30 near c 11 west;guest r 1 2 30 near c 11 east;");
        checks.row("hidden", new long[] {1, 0, 1, 0, 1, 1, 0, 1, 0, 1, 0, 0}, stars::hidden);
        checks.sentence("35. Whether THE SUN hides a GUEST's place (READING 0)");
        GuestStars told = yearNought("gate a 5 0;gate b 115 0;guest r 1 1 0 near a 5 east;guest r 1 1 0 near a 6 east;guest r 1 1 0 near a 16 west;"
            + "guest r 1 1 0 near b 5 west;guest r 1 1 0 near b 6 west;guest r 1 1 0 near b 15 east;guest r 1 1 0 near b 16 east;");
        checks.row("hidden", new long[] {1, 0, 0, 1, 0, 1, 0}, told::hidden);
    }

    private static void hiddenWithout() {
        checks.sentence("35. NONE: it has no GATE, DAY, no such GUEST");
        GuestStars stars = yearNought("gate a 0 0;guest r 1 1 0;guest r 1 1 30 near a 1 east;rock 0 0 near a 1 east;rock 0 0;"
            + "guest r 1 1 0 near a 1 east;");
        checks.row("hidden", new long[] {-1, -1, -1, -1, 1}, stars::hidden);
        checks.refused("hidden", 5, -1, stars::hidden);
        checks.refused("hidden of none", 0, -1, new GuestStars()::hidden);
        stars.doubt(4, true);
        stars.known(0);
        checks.due("doubted or not, known or not", stars.hidden(4), 1);
    }

    private static void seen() {
        checks.sentence("SEEN of an x: MONTHS of which the 15th day of YEAR 0 doesn't hide it");
        // On these days the sun is at 4, 14, 24 .. 114.
        GuestStars stars = new GuestStars();
        int[] xs = {0, 3, 4, 5, 13, 14, 15, 64, 65, 114, 113, 115, 119};
        int[] hides = {0b100000000001, 0b100000000001, 0b100000000011, 0b000000000011, 0b000000000011, 0b000000000111,
            0b000000000110, 0b000011100000, 0b000011000000, 0b110000000001, 0b110000000000, 0b100000000001, 0b100000000001};
        for (int k = 0; k < xs.length; k++) {
            checks.due("seen(" + xs[k] + ")", stars.seen(xs[k]), 4095 - hides[k]);
        }
        checks.due("the turn doesn't matter", checks.told("turn 30;").seen(4), 4095 - 0b100000000011);
    }

    private static void noSuchX() {
        checks.sentence("36. NONE: no such x");
        GuestStars stars = new GuestStars();
        checks.refused("seen", 120, -1, stars::seen);
        checks.due("the last x", stars.seen(119) > 0, true);
    }
}
