import java.util.NoSuchElementException;

/** Promises 6 to 14: what is told of guests, their days, places, sorts and odds. */
public final class GuestsTest {
    private static final Checks checks = new Checks();

    public static void main(String[] args) {
        looks();
        rounds();
        days();
        mends();
        rocks();
        places();
        sorts();
        errors();
        precedence();
        odds();
        checks.finish("GuestsTest");
    }

    private static void looks() {
        GuestStars stars = checks.told("rock 3 4;");
        checks.due("look(0, 12)", looked(stars, 0, 12), 4);
        checks.due("no such what", looked(stars, 0, 13), -1002);
        checks.due("no such what", looked(stars, 0, -1), -1002);
        checks.due("no such guest", looked(stars, 1, 0), -1001);
        checks.due("no such guest", looked(stars, -1, 0), -1001);
        checks.due("neither: the guest is looked at first", looked(stars, 1, 13), -1001);
        stars.doubt(0, true);
        stars.known(0);
        checks.due("doubted and not known", looked(stars, 0, 0), 3);
    }

    private static long looked(GuestStars stars, int guest, int what) {
        try {
            return stars.look(guest, what);
        } catch (IndexOutOfBoundsException e) {
            return -1001;
        } catch (NoSuchElementException e) {
            return -1002;
        }
    }

    private static void rounds() {
        GuestStars stars = checks.told("turn 59;");
        checks.due("round(0)", stars.round(0), 59);
        checks.due("round(1)", stars.round(1), 0);
        checks.due("round(707999)", stars.round(707999), (707999 + 59) % 60);
        checks.due("round(708000)", stars.round(708000), -1);
        checks.due("round(-1)", stars.round(-1), -1);
        checks.due("round(MAX)", stars.round(Integer.MAX_VALUE), -1);
        checks.due("sun(707999)", stars.sun(707999), 353 * 120 / 354);
        checks.due("sun(353)", stars.sun(353), 119);
        checks.due("sun(354)", stars.sun(354), 0);
        checks.due("sun(2)", stars.sun(2), 0);
        checks.due("sun(3)", stars.sun(3), 1);
        checks.due("sun(708000)", stars.sun(708000), -1);
        checks.due("sun(-1)", stars.sun(-1), -1);
    }

    private static void days() {
        // Month 1 has the rounds 0 to 29, month 2 those from 30 to 58, month 3 begins with 59.
        GuestStars stars = checks.told("reign r 0 3;guest r 1 1 0;guest r 1 1 29;guest r 1 1 30;guest r 1 2 30;"
            + "guest r 1 2 58;guest r 1 2 59;guest r 1 3 59;guest r 1 3 28;guest r 1 12 5;guest r 3 1 48;");
        int[] days = {0, 29, -1, 30, 58, -1, 59, 88, -1, 708};
        for (int g = 0; g < days.length; g++) {
            checks.due("day(" + g + ")", stars.day(g), days[g]);
        }
        checks.due("day(10)", stars.day(10), -2);
        checks.due("day(-1)", stars.day(-1), -2);
        checks.due("months(10)", stars.months(10), -1);
        checks.due("months(-1)", stars.months(-1), -1);
        checks.due("months(0)", stars.months(0), 0b010101010101);
        checks.due("months(3)", stars.months(3), 0b101010101010);
        // Years 0, 1, 2 begin with the rounds 0, 54, 48.
        checks.due("years(0)", stars.years(0, -1), 3);
        checks.due("years(0, 0)", stars.years(0, 0), 0);
        checks.due("years(0, 2)", stars.years(0, 2), 2);
        checks.due("years(0, 3)", stars.years(0, 3), -1);
        checks.due("years(0, -2)", stars.years(0, -2), -1);
        checks.due("years(10, -1)", stars.years(10, -1), -1);
        checks.due("years(-1, -1)", stars.years(-1, -1), -1);
        checks.due("years(2)", stars.years(2, -1), 0);
        checks.due("years(2, 0)", stars.years(2, 0), -1);
        checks.due("years(9)", stars.years(9, -1), 1);
        checks.due("years(9, 0)", stars.years(9, 0), 2);
    }

    private static void mends() {
        GuestStars stars = checks.told("reign r 0 3;guest r 1 1 50;guest r 1 2 0;guest r 1 1 0;");
        checks.due("by months", stars.mend(0, 1), 6);
        checks.due("by years", stars.mend(0, 2), 1);
        checks.due("by rounds", stars.mend(0, 3), 30);
        checks.due("in all", stars.mend(0, 0), 37);
        checks.due("by rounds of an even month", stars.mend(1, 3), 29);
        for (int what = 0; what <= 3; what++) {
            checks.due("it has a day", stars.mend(2, what), 0);
        }
        checks.due("no such what", stars.mend(2, 4), -1);
        checks.due("no such what", stars.mend(0, -1), -1);
        checks.due("no such guest", stars.mend(3, 0), -1);
        checks.due("no such guest", stars.mend(-1, 0), -1);
    }

    private static void rocks() {
        GuestStars stars = checks.told("rock 5 9;");
        checks.due("day", stars.day(0), -1);
        checks.due("months", stars.months(0), 0);
        checks.due("years", stars.years(0, -1), 0);
        checks.due("years", stars.years(0, 0), -1);
        for (int what = 0; what <= 3; what++) {
            checks.due("mend", stars.mend(0, what), 0);
        }
        checks.due("mend", stars.mend(0, 4), -1);
        checks.due("place", stars.place(0, 0, 0), -1);
        checks.due("hidden", stars.hidden(0), -1);
        checks.due("sort", stars.sort(0), -1);
        checks.due("no such", stars.sort(1), -2);
        checks.due("no such", stars.sort(-1), -2);
    }

    private static void places() {
        GuestStars stars = checks.told("gate a 2 57;gate b 118 1;rock 0 0 near a 5 west north;rock 0 0 near b 5 south;"
            + "rock 0 0 near b 20 east;rock 0 0;");
        int[][] xs = {{117, 7, 117, 7}, {118, 118, 118, 118}, {18, 98, 18, 98}};
        int[][] ys = {{59, 59, 52, 52}, {0, 0, 6, 6}, {1, 1, 1, 1}};
        for (int g = 0; g < 3; g++) {
            for (int reading = 0; reading < 4; reading++) {
                checks.due("x of " + g + " by " + reading, stars.place(g, reading, 0), xs[g][reading]);
                checks.due("y of " + g + " by " + reading, stars.place(g, reading, 1), ys[g][reading]);
            }
        }
        checks.due("without a gate", stars.place(3, 0, 0), -1);
        checks.due("no such guest", stars.place(4, 0, 0), -1);
        checks.due("no such guest", stars.place(-1, 0, 0), -1);
        checks.due("no such reading", stars.place(0, 4, 0), -1);
        checks.due("no such reading", stars.place(0, -1, 0), -1);
        checks.due("no such what", stars.place(0, 0, 2), -1);
        checks.due("no such what", stars.place(0, 0, -1), -1);
    }

    private static void sorts() {
        GuestStars stars = checks.told("reign r 0 1;gate g 0 0;guest r 1 7 0 near g 3 east lasts 50 bright 4 moves 2 tail;"
            + "rock 0 0 bright 4;guest r 1 2 1 lasts 1;"
            + "sort a 1 lasts>=50 and inches=3 and month=7;sort b 1 bright*2-8;sort c 1 0-(lasts<>0);");
        checks.due("sort(0)", stars.sort(0), 0);
        checks.due("sort(1)", stars.sort(1), -1);
        checks.due("sort(2): what is below 0 isn't 0", stars.sort(2), 1);
        GuestStars six = checks.told("rock 0 0;sort a 1 0;sort b 1 1/0;sort c 1 tail;sort d 1 moves;sort e 1 0;sort f 1 bright;");
        checks.due("none of six", six.sort(0), -1);
        checks.due("none of six", six.odds(0, 5, 1), 0);
        GuestStars none = checks.told("rock 0 0;");
        checks.due("no sorts", none.sort(0), -1);
        checks.due("no sorts", none.odds(0, 0, 0), -1);
    }

    /** The value of a rule with no names, told by sort and odds: a number 0 to 9999, -1 below 0, -2 the error. */
    private static long value(String rule) {
        GuestStars stars = checks.told("rock 0 0;sort a 1 " + rule + ";sort b 1 1;");
        long above = stars.odds(0, 0, 0);
        long below = stars.odds(0, 0, 1);
        if (above == 0) {
            GuestStars kinds = checks.told("rock 0 0;sort a 1 (" + rule + ")<0;sort b 1 (" + rule + ")=0;sort c 1 1;");
            return new int[] {-1, 0, -2}[kinds.sort(0)];
        }
        // The fraction is the value by one more.
        return above * (1 / (below - above));
    }

    private static void errors() {
        checks.due("by 0", value("1/0"), -2);
        checks.due("0 by 0", value("0/0"), -2);
        checks.due("both sides are worked out", value("1 or 1/0"), -2);
        checks.due("both sides are worked out", value("0 and 1/0"), -2);
        checks.due("not", value("not (1/0)"), -2);
        checks.due("comparisons", value("1/0<>1/0"), -2);
        checks.due("10 to the 12", value("1000*1000*1000*1000/1000/1000/1000"), 1000);
        checks.due("above it", value("(1000*1000*1000*1000+1)*0"), -2);
        checks.due("just so much by a sum", value("(999*1000*1000*1000+1000*1000*1000)*0"), 0);
        checks.due("just so much below", value("((0-999)*1000*1000*1000-1000*1000*1000)*0"), 0);
        checks.due("less is fine", value("(1000*1000*1000*1000-1)*0"), 0);
        checks.due("below 0 by that", value("((0-1000)*1000*1000*1000)*0"), 0);
        checks.due("below 0 by more", value("((0-1000)*1000*1000*1000-1)*0"), -2);
        checks.due("a wrapped product", value("(1000*1000*1000*1000)*(1000*1000*1000*1000)"), -2);
        checks.due("a wrapped product", value("9999*9999*9999*9999*9999"), -2);
        checks.due("0 times much", value("0*(1000*1000*1000*1000)"), 0);
        checks.due("above 9999", value("10*1000"), 9999);
    }

    private static void precedence() {
        checks.due("times first", value("2+3*4"), 14);
        checks.due("from the left", value("20-5-3"), 12);
        checks.due("from the left", value("100/5/2"), 10);
        checks.due("cut", value("7/2"), 3);
        checks.due("cut towards 0", value("9+(0-7)/2"), 6);
        checks.due("brackets", value("(2+3)*4"), 20);
        checks.due("sums ahead of comparisons", value("1+1=2"), 1);
        checks.due("not of a comparison", value("not 1=2"), 1);
        checks.due("not not", value("not not 5"), 1);
        checks.due("and ahead of or", value("1 or 0 and 0"), 1);
        checks.due("not ahead of and", value("not 1 and 0"), 0);
        checks.due("not ahead of or", value("not 1 or 1"), 1);
        checks.due("<", value("1<1"), 0);
        checks.due("<=", value("1<=1"), 1);
        checks.due(">", value("1>1"), 0);
        checks.due(">=", value("1>=1"), 1);
        checks.due("<>", value("1<>1"), 0);
        checks.due("=", value("1=1"), 1);
        checks.due("and", value("5 and 7"), 1);
        checks.due("or", value("0 or 7"), 1);
        checks.due("below 0", value("3-4"), -1);
    }

    private static void odds() {
        GuestStars stars = checks.told("rock 0 0 lasts 6;sort a 2 lasts;sort b 3 2;sort c 5 0-1;sort d 7 1/0;sort e 99 9999*2;");
        long sum = 12 + 6 + 99 * 9999;
        checks.due("a above", stars.odds(0, 0, 0), 12 / 3);
        checks.due("a below", stars.odds(0, 0, 1), sum / 3);
        checks.due("b above", stars.odds(0, 1, 0), 6 / 3);
        checks.due("b below", stars.odds(0, 1, 1), sum / 3);
        checks.due("c above", stars.odds(0, 2, 0), 0);
        checks.due("c below", stars.odds(0, 2, 1), 1);
        checks.due("d above", stars.odds(0, 3, 0), 0);
        checks.due("d below", stars.odds(0, 3, 1), 1);
        checks.due("e above", stars.odds(0, 4, 0), 99 * 9999 / 9);
        checks.due("e below", stars.odds(0, 4, 1), sum / 9);
        checks.due("no such sort", stars.odds(0, 5, 0), -1);
        checks.due("no such sort", stars.odds(0, -1, 0), -1);
        checks.due("no such guest", stars.odds(1, 0, 0), -1);
        checks.due("no such guest", stars.odds(-1, 0, 0), -1);
        checks.due("no such what", stars.odds(0, 0, 2), -1);
        checks.due("no such what", stars.odds(0, 0, -1), -1);
        GuestStars none = checks.told("rock 0 0;sort a 2 lasts;sort b 3 1/0;");
        checks.due("0 by 0", none.odds(0, 0, 0), 0);
        checks.due("0 by 0", none.odds(0, 0, 1), 0);
    }
}
