/** Promises 15, 28, 29, 31, 33 to 36 and 39: clouds, shares, chances, the sun and draws. */
public final class CloudsTest {
    private static final Checks checks = new Checks();

    public static void main(String[] args) {
        ages();
        blurred();
        ticks();
        untold();
        next();
        shares();
        chances();
        hidden();
        draws();
        checks.finish("CloudsTest");
    }

    private static void ages() {
        GuestStars stars = checks.told("cloud 7 8 plate 1900 100 plate 1950 107 slow 7;"
            + "cloud 0 0 plate 100 9998 plate 2999 9999;cloud 1 1 plate 0 1 plate 1 9999;");
        checks.due("age, cut", stars.born(0, 0), 5000 / 7);
        checks.due("from", stars.born(0, 1), 1900 - 714);
        checks.due("to, cut", stars.born(0, 2), 1900 - 499);
        checks.due("no tick", stars.born(0, 3), Integer.MIN_VALUE);
        checks.due("x", stars.born(0, 4), 7);
        checks.due("y", stars.born(0, 5), 8);
        checks.due("9999 at most", stars.born(1, 0), 9999);
        checks.due("from", stars.born(1, 1), 100 - 9999);
        checks.due("age 0", stars.born(2, 0), 0);
        checks.due("no such what", stars.born(0, 6), Integer.MIN_VALUE);
        checks.due("no such what", stars.born(0, -1), Integer.MIN_VALUE);
        checks.due("no such cloud", stars.born(3, 0), Integer.MIN_VALUE);
        checks.due("no such cloud", stars.born(-1, 0), Integer.MIN_VALUE);
    }

    private static void blurred() {
        // Sizes 7 (0 at least) or 13, 17 or 23; and 0 or 20, 1 or 21.
        GuestStars stars = checks.told("cloud 0 0 plate 1000 10 plate 1100 20;cloud 0 0 plate 1000 3 plate 1100 4 slow 5;"
            + "blur 3;");
        checks.due("as told", stars.born(0, 0), 100);
        checks.due("from", stars.born(0, 1), 1000 - 1300 / 4);
        checks.due("to", stars.born(0, 2), 1000 - 700 / 16);
        checks.due("as told", stars.born(1, 0), 300);
        checks.due("not above: 9999", stars.born(1, 1), 1000 - 9999);
        checks.due("size 0: age 0", stars.born(1, 2), 1000);
        GuestStars equal = checks.told("blur 1;cloud 0 0 plate 1000 10 plate 1100 12;");
        checks.due("equal sizes: 9999", equal.born(0, 1), 1000 - 9999);
        checks.due("to", equal.born(0, 2), 1000 - 900 / 4);
    }

    private static void ticks() {
        GuestStars stars = checks.told("cloud 0 0 plate 1 1 plate 2000 2 tick 33 7;cloud 0 0 plate 1 1 plate 2000 2 tick 9999 1;"
            + "cloud 0 0 plate 1 1 plate 2000 2 tick 1 9999;");
        checks.due("cut", stars.born(0, 3), 2000 - 235);
        checks.due("9999 at most", stars.born(1, 3), 2000 - 9999);
        checks.due("0", stars.born(2, 3), 2000);
    }

    private static void untold() {
        // The first cloud is born in 100 .. 110, the second one behind 1999, the third ahead of 0, the fourth in part.
        GuestStars stars = checks.told("cloud 14 0 plate 210 110 plate 310 210 slow 9;cloud 0 0 plate 2500 1 plate 2501 2;"
            + "cloud 0 0 plate 5 90 plate 15 100;cloud 14 0 plate 95 100 plate 195 200 slow 5;watch 100 104 4;watch 104 105 8;");
        checks.due("from", stars.born(0, 1), 100);
        checks.due("to", stars.born(0, 2), 111);
        int seen = Integer.bitCount(stars.seen(14));
        long above = 12 * 120 - (4 * 4 + 2 * 8) * seen;
        checks.due("in least terms", stars.untold(0, 0) * 12 * 120, above * stars.untold(0, 1));
        checks.due("in least terms", gcd(stars.untold(0, 0), stars.untold(0, 1)), 1);
        checks.due("none of the years", stars.untold(1, 0), 0);
        checks.due("none of the years", stars.untold(1, 1), 0);
        checks.due("ahead of all", stars.untold(2, 1), 0);
        checks.due("in part: nobody watched", stars.untold(3, 0), 1);
        checks.due("in part: nobody watched", stars.untold(3, 1), 1);
        checks.due("no such cloud", stars.untold(4, 0), -1);
        checks.due("no such cloud", stars.untold(-1, 0), -1);
        checks.due("no such what", stars.untold(0, 2), -1);
        checks.due("no such what", stars.untold(0, -1), -1);
    }

    private static long gcd(long a, long b) {
        return b == 0 ? a : gcd(b, a % b);
    }

    private static void next() {
        GuestStars stars = checks.told("blur 2;cloud 0 0 plate 1000 100 plate 1100 150;cloud 0 0 plate 1000 90 plate 1100 140;"
            + "cloud 0 0 plate 1000 100 plate 1100 150;cloud 0 0 plate 2000 9 plate 2500 4009;");
        checks.due("the first of several", stars.next(1300, 0), 0);
        int before = 102 * 100 / 46 - 98 * 100 / 54;
        int then = 102 * 300 / 146 - 98 * 300 / 154;
        checks.due("by so many", stars.next(1300, 1), before - then);
        checks.due("of the second plate's year", stars.next(1100, 0), -1);
        checks.due("a year later the size is the same: wider", stars.next(1101, 0), -1);
        checks.due("later", stars.next(1150, 0), 0);
        checks.due("of what isn't ahead", stars.next(999, 0), -1);
        checks.due("last year", stars.next(2999, 0), 0);
        checks.due("beyond", stars.next(3000, 0), -1);
        checks.due("below", stars.next(-1, 0), -1);
        checks.due("no such what", stars.next(1300, 2), -1);
        checks.due("no such what", stars.next(1300, -1), -1);
        GuestStars sharp = checks.told("cloud 0 0 plate 1000 100 plate 1100 150;");
        checks.due("none is narrower", sharp.next(1300, 0), -1);
        checks.due("none is narrower", sharp.next(1300, 1), -1);
        GuestStars slow = checks.told("blur 1;cloud 0 0 plate 1000 40 plate 1010 43;cloud 0 0 plate 1000 40 plate 1010 42;");
        checks.due("the most", slow.next(1020, 0), 1);
    }

    private static void shares() {
        GuestStars stars = checks.told("watch 5 10 3;watch 8 20 2;watch 10 10 9;watch 1999 1999 1;watch 0 0 10;");
        int[] years = {0, 1, 4, 5, 8, 9, 10, 11, 20, 21, 1999, -1, 2000, Integer.MIN_VALUE};
        int[] shares = {10, 0, 0, 3, 3, 3, 9, 2, 2, 0, 1, -1, -1, -1};
        for (int k = 0; k < years.length; k++) {
            checks.due("share(" + years[k] + ")", stars.share(years[k]), shares[k]);
        }
    }

    private static void chances() {
        GuestStars stars = checks.told("cloud 0 0 plate 1 1 plate 2 2;cloud 60 30 plate 1 1 plate 2 2;");
        long[][] due = {{0, 1, 3600}, {1, 6 + 9, 7200}, {10, 21 * 11 + 21 * 21, 7200}, {59, 119 * 60 * 2, 7200}, {60, 14400, 7200}};
        for (long[] one : due) {
            int above = stars.chance((int) one[0], 0);
            int below = stars.chance((int) one[0], 1);
            checks.due("chance(" + one[0] + ")", above * one[2], one[1] * below);
            checks.due("least terms", gcd(above, below), 1);
        }
        checks.due("below", stars.chance(-1, 0), -1);
        checks.due("beyond", stars.chance(61, 0), -1);
        checks.due("no such what", stars.chance(0, 2), -1);
        checks.due("no such what", stars.chance(0, -1), -1);
        GuestStars none = new GuestStars();
        checks.due("no clouds", none.chance(60, 0), 0);
        checks.due("no clouds", none.chance(60, 1), 1);
        // Places near two clouds count for each of them.
        GuestStars twins = checks.told("cloud 5 5 plate 1 1 plate 2 2;cloud 5 5 plate 1 1 plate 2 2;");
        checks.due("twins", twins.chance(0, 1), 3600);
    }

    private static void hidden() {
        // Day 30 has the sun at x 10.
        GuestStars stars = checks.told("reign r 0 1;gate g 0 5;gate h 119 5;guest r 1 2 30 near g 1 west;guest r 1 2 30 near h 1 east;"
            + "guest r 1 2 30 near g 20 east;guest r 1 2 30 near g 20 east north;guest r 1 2 30;guest r 1 2 0 near g 1 north;"
            + "gate i 20 0;guest r 1 2 30 near i 1 east;rock 0 0 near g 1 north;");
        int[] due = {0, 1, 1, 1, -1, -1, 0, -1, -1};
        for (int g = 0; g < due.length; g++) {
            checks.due("hidden(" + g + ")", stars.hidden(g), due[g]);
        }
        checks.due("hidden(-1)", stars.hidden(-1), -1);
        // The 15th days of months 1, 2 and 12 have the sun at 4, 14 and 114.
        checks.due("seen(0)", stars.seen(0), 0b011111111110);
        checks.due("seen(119)", stars.seen(119), 0b011111111110);
        checks.due("seen(114)", stars.seen(114), 0b001111111110);
        checks.due("seen(4)", stars.seen(4), 0b011111111100);
        checks.due("seen(-1)", stars.seen(-1), -1);
        checks.due("seen(120)", stars.seen(120), -1);
    }

    private static void draws() {
        // By seed 1 the numbers are 16838, 5758, 10113, 17515 (the well known row): the places (38, 58), (33, 55).
        GuestStars stars = checks.told("cloud 38 58 plate 1 1 plate 2 2;");
        checks.due("the first", stars.draws(1, 1, 0), 1);
        checks.due("and the second", stars.draws(1, 2, 4), 1);
        checks.due("and the second", stars.draws(1, 2, 5), 2);
        checks.due("all", stars.draws(2147483647, 500, 60), 500);
        checks.due("another seed", stars.draws(2, 1, 0), 0);
        // By seed 0 the first numbers are 0 (12345 by 65536) and 21468: the place (0, 48).
        checks.due("seed 0", checks.told("cloud 0 48 plate 1 1 plate 2 2;").draws(0, 1, 0), 1);
        checks.due("none", stars.draws(1, 0, 0), -1);
        checks.due("too many", stars.draws(1, 501, 0), -1);
        checks.due("no such seed", stars.draws(-1, 1, 0), -1);
        checks.due("no such d", stars.draws(1, 1, 61), -1);
        checks.due("no such d", stars.draws(1, 1, -1), -1);
        checks.due("no clouds", new GuestStars().draws(1, 500, 60), 0);
    }
}
