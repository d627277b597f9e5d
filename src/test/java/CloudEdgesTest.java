/** The edges of clouds, tolls, shares and chances (promises 15 to 17, 28, 29, 31, 33, 39), sentence by sentence. */
public final class CloudEdgesTest {
    private static final Checks checks = new Checks();
    private static final int NO = Integer.MIN_VALUE;

    public static void main(String[] args) {
        agesCut();
        agesAtMost();
        agesOfSizesNotAbove();
        blurredSizes();
        noughtAtLeast();
        slowed();
        blurIsOfTheWholeText();
        ticksCut();
        noTick();
        noSuchBirth();
        aheadOfYearNought();
        apartTheShorterWay();
        apartTheGreater();
        pricesOfWays();
        somethingToldIsTurned();
        tollWithoutNear();
        yearsOutside();
        yearsOfRocks();
        farOutside();
        noSuchToll();
        readingOfTheLeast();
        readingsOfSeveral();
        readingWithout();
        untoldYears();
        untoldWithout();
        untoldShares();
        noSuchUntold();
        nextAboveBoth();
        nextSize();
        nextMost();
        nextNotNarrower();
        noSuchNext();
        sharesOfYears();
        sharesWithout();
        noSuchShare();
        chanceOfPlaces();
        chanceOfAll();
        chanceTogether();
        chanceWithoutClouds();
        noSuchChance();
        drawnNumbers();
        drawnNear();
        drawnBounds();
        noSuchDraws();
        checks.finish("CloudEdgesTest");
    }

    /** A cloud that is born in just one year: the second plate is a year later and has twice the size. */
    private static String cloud(int x, int y, int born) {
        return "cloud " + x + " " + y + " plate " + (born + 1) + " 1 plate " + (born + 2) + " 2;";
    }

    private static void agesCut() {
        checks.sentence("AGE: s (z less y) by (t less s), cut");
        GuestStars stars = checks.told("cloud 0 0 plate 1000 10 plate 1010 13;cloud 0 0 plate 1000 11 plate 1010 121;"
            + "cloud 0 0 plate 1000 10 plate 1010 111;cloud 0 0 plate 1000 10 plate 1010 110;cloud 0 0 plate 0 1 plate 2999 9999;");
        checks.row("age", new long[] {33, 1, 0, 1, 0}, cloud -> stars.born(cloud, 0));
        checks.row("from", new long[] {967, 999, 1000, 999, 0}, cloud -> stars.born(cloud, 1));
    }

    private static void agesAtMost() {
        checks.sentence("AGE: 9999 at most");
        GuestStars stars = checks.told("cloud 0 0 plate 0 4999 plate 2 5000;cloud 0 0 plate 0 3333 plate 3 3334;"
            + "cloud 0 0 plate 0 5000 plate 2 5001;cloud 0 0 plate 0 9998 plate 2999 9999;");
        checks.row("age", new long[] {9998, 9999, 9999, 9999}, cloud -> stars.born(cloud, 0));
        checks.row("from", new long[] {-9998, -9999, -9999, -9999}, cloud -> stars.born(cloud, 1));
        checks.row("to", new long[] {-9998, -9999, -9999, -9999}, cloud -> stars.born(cloud, 2));
    }

    private static void agesOfSizesNotAbove() {
        checks.sentence("AGE: 9999, if t isn't above s");
        // With the blur the first size is 11 at most, the second one 11, 12 or 10 at least.
        GuestStars stars = checks.told("blur 1;cloud 0 0 plate 1000 10 plate 1100 12;cloud 0 0 plate 1000 10 plate 1100 13;"
            + "cloud 0 0 plate 1000 10 plate 1100 11;");
        checks.row("from", new long[] {1000 - 9999, 1000 - 1100, 1000 - 9999}, cloud -> stars.born(cloud, 1));
        checks.row("as told", new long[] {500, 333, 1000}, cloud -> stars.born(cloud, 0));
    }

    private static void blurredSizes() {
        checks.sentence("BORN: the first SIZE BLUR more or less, the second likewise: of these four the earliest, the latest");
        // 7 or 13, 17 or 23: the ages are 70, 43, 325 and 130.
        GuestStars stars = checks.told("blur 3;cloud 0 0 plate 1000 10 plate 1100 20;");
        checks.due("from", stars.born(0, 1), 675);
        checks.due("to", stars.born(0, 2), 957);
        GuestStars sharp = checks.told("blur 0;cloud 0 0 plate 1000 10 plate 1100 20;");
        checks.due("sharp from", sharp.born(0, 1), 900);
        checks.due("sharp to", sharp.born(0, 2), 900);
        // 9900 or 9998 + 99 and 9900 or 10098: the greatest sizes.
        GuestStars great = checks.told("blur 99;cloud 0 0 plate 1000 9000 plate 2000 9999;");
        checks.due("great from", great.born(0, 1), 1000 - 9999);
        checks.due("great to", great.born(0, 2), 1000 - 8901 * 1000 / 1197);
    }

    private static void noughtAtLeast() {
        checks.sentence("BORN: (0 at least)");
        GuestStars stars = checks.told("blur 99;cloud 0 0 plate 1000 1 plate 1010 2;cloud 0 0 plate 1000 99 plate 1010 500;"
            + "cloud 0 0 plate 1000 98 plate 1010 500;cloud 0 0 plate 1000 110 plate 1010 500;");
        checks.row("to", new long[] {1000, 1000, 1000, 1000 - 110 / 588}, cloud -> stars.born(cloud, 2));
        checks.due("from", stars.born(0, 1), 1000 - 9999);
        checks.due("from", stars.born(1, 1), 1000 - 1980 / 203);
        GuestStars little = checks.told("blur 1;cloud 0 0 plate 1000 1 plate 1100 2;cloud 0 0 plate 1000 2 plate 1100 3;");
        checks.row("size 0, not 1: to", new long[] {1000, 1000 - 100 / 3}, cloud -> little.born(cloud, 2));
    }

    private static void slowed() {
        checks.sentence("BORN: the latest y less AGE times slow by 10, cut");
        GuestStars stars = checks.told("cloud 0 0 plate 1000 10 plate 1010 13 slow 5;cloud 0 0 plate 1000 10 plate 1010 13 slow 1;"
            + "cloud 0 0 plate 1000 10 plate 1010 13 slow 10;cloud 0 0 plate 1000 10 plate 1010 13;cloud 0 0 plate 1000 10 plate 1010 110 slow 9;"
            + "cloud 0 0 plate 0 9998 plate 2999 9999 slow 3;");
        checks.row("from", new long[] {967, 967, 967, 967, 999, -9999}, cloud -> stars.born(cloud, 1));
        checks.row("to", new long[] {984, 997, 967, 967, 1000, -2999}, cloud -> stars.born(cloud, 2));
        checks.row("age, as told", new long[] {33, 33, 33, 33, 1, 9999}, cloud -> stars.born(cloud, 0));
    }

    private static void blurIsOfTheWholeText() {
        checks.sentence("BORN: BLUR, told ahead or behind");
        GuestStars behind = checks.told("cloud 0 0 plate 1000 10 plate 1100 20;blur 3;cloud 0 0 plate 1000 10 plate 1100 20;");
        checks.row("from", new long[] {675, 675}, cloud -> behind.born(cloud, 1));
        checks.row("to", new long[] {957, 957}, cloud -> behind.born(cloud, 2));
    }

    private static void ticksCut() {
        checks.sentence("By TICKS: z less PERIOD times 100 by (2 SLOWING), cut, 9999 at most");
        String plates = "cloud 0 0 plate 1 1 plate 2000 2 tick ";
        GuestStars stars = checks.told(plates + "1 3;" + plates + "1 50;" + plates + "1 51;" + plates + "9998 50;" + plates + "9999 50;"
            + plates + "9999 49;" + plates + "9999 1;" + plates + "1 9999;");
        checks.row("by ticks", new long[] {2000 - 16, 1999, 2000, 2000 - 9998, 2000 - 9999, 2000 - 9999, 2000 - 9999, 2000},
            cloud -> stars.born(cloud, 3));
    }

    private static void noTick() {
        checks.sentence("15. Integer.MIN_VALUE: no tick");
        GuestStars stars = checks.told("cloud 0 0 plate 1 1 plate 2 2 tick 1 1;cloud 0 0 plate 1 1 plate 2 2;cloud 0 0 plate 1 1 plate 2 2 slow 5;");
        checks.row("by ticks", new long[] {-48, NO, NO}, cloud -> stars.born(cloud, 3));
    }

    private static void noSuchBirth() {
        checks.sentence("15. Integer.MIN_VALUE: no such ones");
        GuestStars stars = checks.told("cloud 119 59 plate 1 1 plate 2 2 tick 1 1;cloud 0 1 plate 1 1 plate 2 2;");
        for (int what = 0; what <= 5; what++) {
            int asked = what;
            checks.refused("cloud, " + what, 2, NO, cloud -> stars.born(cloud, asked));
            checks.refused("cloud of none, " + what, 0, NO, cloud -> new GuestStars().born(cloud, asked));
        }
        checks.refused("what", 6, NO, what -> stars.born(0, what));
        checks.row("born", new long[] {1, 0, 0, -48, 119, 59}, what -> stars.born(0, what));
    }

    private static void aheadOfYearNought() {
        checks.sentence("15. BORN from, to: ahead of YEAR 0");
        GuestStars stars = checks.told("cloud 0 0 plate 0 1 plate 1 2;cloud 0 0 plate 0 9998 plate 1 9999 tick 9999 1;");
        checks.row("from", new long[] {-1, -9998}, cloud -> stars.born(cloud, 1));
        checks.due("by ticks", stars.born(1, 3), 1 - 9999);
    }

    private static void apartTheShorterWay() {
        checks.sentence("APART: how far their x (the shorter way round)");
        GuestStars stars = checks.told("price 99;gate g 0 30;rock 100 100 near g 1 north;" + cloud(0, 31, 100) + cloud(1, 31, 100)
            + cloud(119, 31, 100) + cloud(59, 31, 100) + cloud(60, 31, 100) + cloud(61, 31, 100) + cloud(100, 31, 100));
        checks.row("toll", new long[] {0, 1, 1, 59, 60, 59, 20}, cloud -> stars.toll(0, cloud));
        GuestStars other = checks.told("price 99;gate g 119 30;rock 100 100 near g 1 north;" + cloud(0, 31, 100) + cloud(59, 31, 100)
            + cloud(58, 31, 100) + cloud(60, 31, 100));
        checks.row("toll", new long[] {1, 60, 59, 59}, cloud -> other.toll(0, cloud));
    }

    private static void apartTheGreater() {
        checks.sentence("APART of two: the greater of x and their y are apart");
        // Between y 0 and y 59 there is no way round.
        GuestStars stars = checks.told("price 99;gate g 50 1;rock 100 100 near g 1 south;" + cloud(50, 59, 100) + cloud(55, 4, 100)
            + cloud(54, 5, 100) + cloud(45, 5, 100) + cloud(110, 59, 100));
        checks.row("toll", new long[] {59, 5, 5, 5, 60}, cloud -> stars.toll(0, cloud));
    }

    private static void pricesOfWays() {
        checks.sentence("TOLL: PRICE for each way turned");
        String text = "gate g 50 30;rock 100 100 near g 20 north east;" + cloud(70, 50, 100) + cloud(30, 50, 100) + cloud(70, 10, 100)
            + cloud(30, 10, 100);
        long[][] due = {{0, 0, 0, 0}, {0, 4, 4, 8}, {0, 19, 19, 38}, {0, 20, 20, 40}, {0, 39, 39, 40}, {0, 40, 40, 40}, {0, 40, 40, 40}};
        int[] prices = {0, 4, 19, 20, 39, 40, 99};
        for (int k = 0; k < prices.length; k++) {
            GuestStars stars = checks.told("price " + prices[k] + ";" + text);
            checks.row("toll at " + prices[k], due[k], cloud -> stars.toll(0, cloud));
        }
        GuestStars without = checks.told(text);
        checks.row("toll without a price", new long[] {0, 5, 5, 10}, cloud -> without.toll(0, cloud));
    }

    private static void somethingToldIsTurned() {
        checks.sentence("TOLL: over READINGS of which something is turned that was told (and 0)");
        GuestStars stars = checks.told("price 0;gate g 50 30;rock 100 100 near g 20 north;rock 100 100 near g 20 west;"
            + "rock 100 100 near g 20 west south;" + cloud(50, 50, 100) + cloud(50, 10, 100) + cloud(30, 30, 100) + cloud(70, 30, 100)
            + cloud(70, 50, 100));
        checks.row("north: toll", new long[] {0, 0, 20, 20, 20}, cloud -> stars.toll(0, cloud));
        checks.row("north: reading", new long[] {0, 2, 0, 0, 0}, cloud -> stars.reading(0, cloud));
        checks.row("west: toll", new long[] {20, 20, 0, 0, 20}, cloud -> stars.toll(1, cloud));
        checks.row("west: reading", new long[] {0, 0, 0, 1, 1}, cloud -> stars.reading(1, cloud));
        checks.row("both: toll", new long[] {20, 20, 20, 20, 0}, cloud -> stars.toll(2, cloud));
        checks.row("both: reading", new long[] {2, 0, 0, 1, 3}, cloud -> stars.reading(2, cloud));
    }

    private static void tollWithoutNear() {
        checks.sentence("TOLL: (20 without near)");
        GuestStars stars = checks.told("price 99;reign r 100 1;guest r 1 1 0;rock 100 100;" + cloud(0, 0, 100) + cloud(60, 30, 100)
            + cloud(0, 0, 110));
        checks.row("guest", new long[] {20, 20, 21}, cloud -> stars.toll(0, cloud));
        checks.row("rock", new long[] {20, 20, 21}, cloud -> stars.toll(1, cloud));
    }

    private static void yearsOutside() {
        checks.sentence("TOLL: how many YEARS its YEAR is outside of BORN, by 10, cut");
        // Born 100 .. 150; the guests of the years 50 to 109, 141 to 200.
        GuestStars stars = checks.told("cloud 0 0 plate 200 100 plate 201 101 slow 5;reign a 50 60;reign b 141 60;guest a 51 1 0;guest a 50 1 0;"
            + "guest a 42 1 0;guest a 41 1 0;guest a 32 1 0;guest a 31 1 0;guest b 10 1 0;guest b 11 1 0;guest b 19 1 0;guest b 20 1 0;"
            + "guest b 29 1 0;guest b 30 1 0;");
        checks.due("from", stars.born(0, 1), 100);
        checks.due("to", stars.born(0, 2), 150);
        checks.row("toll", new long[] {20, 20, 20, 21, 21, 22, 20, 20, 20, 21, 21, 22}, guest -> stars.toll(guest, 0));
    }

    private static void yearsOfRocks() {
        checks.sentence("TOLL: (of a ROCK: the nearest of its YEARS)");
        GuestStars stars = checks.told("cloud 0 0 plate 200 100 plate 201 101 slow 5;rock 0 100;rock 0 91;rock 0 90;rock 0 80;rock 150 999;"
            + "rock 159 999;rock 160 999;rock 170 999;rock 0 1999;rock 120 130;rock 90 90;rock 0 0;");
        checks.row("toll", new long[] {20, 20, 21, 22, 20, 20, 21, 22, 20, 20, 21, 30}, guest -> stars.toll(guest, 0));
    }

    private static void farOutside() {
        checks.sentence("TOLL: far outside of BORN");
        GuestStars stars = checks.told("rock 0 0;rock 1999 1999;rock 1 1;rock 2 2;cloud 0 0 plate 0 9998 plate 1 9999;"
            + "cloud 0 0 plate 2998 1 plate 2999 9999;");
        checks.row("long ago", new long[] {1019, 1219, 1019, 1020}, guest -> stars.toll(guest, 0));
        checks.row("later than all", new long[] {319, 119, 319, 319}, guest -> stars.toll(guest, 1));
    }

    private static void noSuchToll() {
        checks.sentence("16. NONE: no such ones");
        GuestStars stars = checks.told("rock 0 0;rock 0 0;" + cloud(0, 0, 100) + cloud(0, 0, 100) + cloud(0, 0, 100));
        checks.refused("guest", 2, -1, guest -> stars.toll(guest, 0));
        checks.refused("cloud", 3, -1, cloud -> stars.toll(0, cloud));
        checks.due("the last ones", stars.toll(1, 2), 30);
        checks.due("no clouds", checks.told("rock 0 0;").toll(0, 0), -1);
        checks.due("no guests", checks.told(cloud(0, 0, 100)).toll(0, 0), -1);
        stars.doubt(0, true);
        stars.known(0);
        checks.due("doubted or not, known or not", stars.toll(0, 0), 30);
    }

    private static void readingOfTheLeast() {
        checks.sentence("17. By which READING its place has the TOLL's least");
        GuestStars stars = checks.told("price 4;gate g 50 30;rock 0 0 near g 20 north east;" + cloud(70, 50, 100) + cloud(30, 50, 100)
            + cloud(70, 10, 100) + cloud(30, 10, 100));
        checks.row("reading", new long[] {0, 1, 2, 3}, cloud -> stars.reading(0, cloud));
    }

    private static void readingsOfSeveral() {
        checks.sentence("17. (of several the least number)");
        // Readings 0 and 1, 0 and 2, 1 and 3, 2 and 3, 0 and 3 cost the same; a place on, the other one is cheaper.
        GuestStars stars = checks.told("price 4;gate g 50 30;rock 100 100 near g 20 north east;" + cloud(48, 50, 100) + cloud(70, 28, 100)
            + cloud(30, 28, 100) + cloud(48, 10, 100) + cloud(46, 26, 100) + cloud(47, 50, 100) + cloud(70, 27, 100) + cloud(30, 27, 100)
            + cloud(47, 10, 100) + cloud(45, 25, 100));
        checks.row("reading", new long[] {0, 0, 1, 2, 0, 1, 2, 3, 3, 3}, cloud -> stars.reading(0, cloud));
        checks.row("toll", new long[] {22, 22, 26, 26, 24, 21, 21, 25, 25, 23}, cloud -> stars.toll(0, cloud));
        GuestStars free = checks.told("price 0;gate g 50 30;rock 100 100 near g 20 north east;" + cloud(50, 30, 100));
        checks.due("all four", free.reading(0, 0), 0);
    }

    private static void readingWithout() {
        checks.sentence("17. NONE: without near, no such ones");
        GuestStars stars = checks.told("gate g 0 0;rock 0 0;rock 0 0 near g 1 east;" + cloud(0, 0, 100) + cloud(0, 0, 100));
        checks.due("without near", stars.reading(0, 0), -1);
        checks.due("with", stars.reading(1, 1), 0);
        checks.refused("guest", 2, -1, guest -> stars.reading(guest, 0));
        checks.refused("cloud", 2, -1, cloud -> stars.reading(1, cloud));
        checks.due("no clouds", checks.told("gate g 0 0;rock 0 0 near g 1 east;").reading(0, 0), -1);
    }

    private static void untoldYears() {
        checks.sentence("UNTOLD: of the YEARS 0 .. 1999 in which it can be BORN");
        // Born -5 .. 4 and 1995 .. 2004, each five of the years; x 14 is seen in nine months.
        GuestStars stars = checks.told("cloud 14 0 plate 13 18 plate 14 19 slow 5;cloud 14 0 plate 2013 18 plate 2014 19 slow 5;"
            + "watch 0 0 10;watch 1999 1999 10;");
        checks.row("from", new long[] {-5, 1995}, cloud -> stars.born(cloud, 1));
        checks.row("to", new long[] {4, 2004}, cloud -> stars.born(cloud, 2));
        checks.row("above", new long[] {17, 17}, cloud -> stars.untold(cloud, 0));
        checks.row("below", new long[] {20, 20}, cloud -> stars.untold(cloud, 1));
        // Born in just the first and the last year.
        GuestStars ends = checks.told(cloud(14, 0, 0) + cloud(14, 0, 1999) + "watch 0 0 10;watch 1999 1999 10;");
        checks.row("above", new long[] {1, 1}, cloud -> ends.untold(cloud, 0));
        checks.row("below", new long[] {4, 4}, cloud -> ends.untold(cloud, 1));
        GuestStars all = checks.told("watch 0 1999 10;cloud 14 0 plate 2998 9998 plate 2999 9999 slow 1;");
        checks.due("from", all.born(0, 1), -7000);
        checks.due("to", all.born(0, 2), 1999);
        checks.due("all years", all.untold(0, 1), 4);
    }

    private static void untoldWithout() {
        checks.sentence("UNTOLD: (0 by 0 without)");
        GuestStars stars = checks.told(cloud(14, 0, 2000) + "cloud 14 0 plate 0 1 plate 1 2;cloud 0 0 plate 0 9998 plate 2999 9999;"
            + "cloud 0 0 plate 2900 1 plate 2901 99;watch 0 1999 5;");
        checks.due("born in -1", stars.born(1, 2), -1);
        for (int cloud = 0; cloud < 4; cloud++) {
            checks.due("above of " + cloud, stars.untold(cloud, 0), 0);
            checks.due("below of " + cloud, stars.untold(cloud, 1), 0);
        }
    }

    private static void untoldShares() {
        checks.sentence("UNTOLD: the sum of 120 less SHARE times how many MONTHS its x is SEEN, by 120 times how many, in least terms");
        // x 14 is seen in 9 months, x 15 in 10.
        GuestStars stars = checks.told(cloud(14, 0, 500) + cloud(15, 0, 500) + cloud(14, 0, 501) + cloud(15, 0, 502) + cloud(15, 0, 499)
            + "watch 500 500 10;watch 501 501 1;watch 500 502 3;");
        checks.row("above", new long[] {1, 1, 31, 3, 1}, cloud -> stars.untold(cloud, 0));
        checks.row("below", new long[] {4, 6, 40, 4, 1}, cloud -> stars.untold(cloud, 1));
    }

    private static void noSuchUntold() {
        checks.sentence("28. NONE: no such ones");
        GuestStars stars = checks.told(cloud(14, 0, 500) + cloud(15, 0, 2500));
        checks.refused("cloud", 2, -1, cloud -> stars.untold(cloud, 0));
        checks.refused("cloud", 2, -1, cloud -> stars.untold(cloud, 1));
        checks.refused("what", 2, -1, what -> stars.untold(0, what));
        checks.refused("what, without years", 2, -1, what -> stars.untold(1, what));
        checks.due("no clouds", new GuestStars().untold(0, 0), -1);
    }

    /** A cloud that a third plate a year later makes narrower by 5 years: from 10 (ages 45 to 55) to 5 (47 to 52). */
    private static String narrow(int year) {
        return "cloud 0 0 plate " + year + " 5000 plate " + (year + 1) + " 5100;";
    }

    private static void nextAboveBoth() {
        checks.sentence("29. NEXT in a YEAR (of CLOUDS whose PLATES are both ahead of it)");
        GuestStars stars = checks.told("blur 5;" + narrow(1000));
        checks.due("width", stars.born(0, 2) - stars.born(0, 1), 10);
        checks.due("the first plate's year", stars.next(1000, 0), -1);
        checks.due("the second plate's year", stars.next(1001, 0), -1);
        checks.due("the year behind it", stars.next(1002, 0), 0);
        checks.due("by so many", stars.next(1002, 1), 5);
        checks.due("ahead of both", stars.next(999, 0), -1);
        checks.due("between", checks.told("blur 5;cloud 0 0 plate 1000 5000 plate 1010 6000;").next(1005, 0), -1);
        GuestStars two = checks.told("blur 5;" + narrow(1500) + narrow(1000));
        checks.due("only the second is ahead", two.next(1500, 0), 1);
        checks.due("only the second is ahead", two.next(1501, 0), 1);
    }

    private static void nextSize() {
        checks.sentence("NEXT: of SIZE t and (t less s) times (that YEAR less z) by (z less y), cut");
        // A year on, a size of 150 is still 150, by which the ages are 250 to 191 instead of 262 to 158; in 1102 it is 151.
        GuestStars stars = checks.told("blur 5;cloud 0 0 plate 1000 100 plate 1100 150;");
        int now = 105 * 100 / 40 - 95 * 100 / 60;
        checks.due("width", stars.born(0, 2) - stars.born(0, 1), now);
        for (int year : new int[] {1101, 1102, 1103, 1104, 1150, 1199, 1200, 2999}) {
            int size = 150 + 50 * (year - 1100) / 100;
            int then = 105 * (year - 1000) / (size - 5 - 105) - 95 * (year - 1000) / (size + 5 - 95);
            checks.due("next(" + year + ")", stars.next(year, 1), now - then > 0 ? now - then : -1);
        }
        // The size goes far beyond 9999.
        GuestStars great = checks.told("blur 1;cloud 0 0 plate 0 9000 plate 1 9003;");
        int great3 = 9001 - 8999 / 5;
        int then = 9001 * 2999 / (9003 + 3 * 2998 - 1 - 9001) - 8999 * 2999 / (9003 + 3 * 2998 + 1 - 8999);
        checks.due("width", great.born(0, 2) - great.born(0, 1), great3);
        checks.due("next(2999)", great.next(2999, 1), great3 - then);
    }

    private static void nextMost() {
        checks.sentence("NEXT: the CLOUD with which it is most, of several the first");
        GuestStars same = checks.told("blur 5;" + narrow(1000) + narrow(1000) + narrow(1000));
        checks.due("of several the first", same.next(1002, 0), 0);
        GuestStars most = checks.told("blur 5;" + narrow(1000) + "cloud 0 0 plate 1000 9000 plate 1001 9100;"
            + "cloud 0 0 plate 1000 9000 plate 1001 9100;" + narrow(1000));
        checks.due("the most", most.next(1002, 0), 1);
        int now = 9005 / 90 - 8995 / 110;
        checks.due("by so many", most.next(1002, 1), now - (9005 * 2 / 190 - 8995 * 2 / 210));
    }

    private static void nextNotNarrower() {
        checks.sentence("29. NONE: none is narrower");
        GuestStars sharp = checks.told("cloud 0 0 plate 1000 100 plate 1100 150;");
        checks.due("just as wide: the cloud", sharp.next(1200, 0), -1);
        checks.due("just as wide: years", sharp.next(1200, 1), -1);
        GuestStars wider = checks.told("blur 5;cloud 0 0 plate 1000 9000 plate 1500 9100;");
        checks.due("wider", wider.next(1501, 0), -1);
        checks.due("wider", wider.next(1501, 1), -1);
        checks.due("without clouds", new GuestStars().next(2000, 0), -1);
        GuestStars one = checks.told("blur 5;cloud 0 0 plate 1000 100 plate 1100 150;" + narrow(1000));
        checks.due("one of them", one.next(1101, 0), 1);
    }

    private static void noSuchNext() {
        checks.sentence("29. NONE: no such ones (a YEAR 0 .. 2999)");
        GuestStars last = checks.told("blur 5;" + narrow(2997));
        checks.due("the last year", last.next(2999, 0), 0);
        checks.due("by so many", last.next(2999, 1), 5);
        checks.refused("year", 3000, -1, year -> last.next(year, 0));
        checks.refused("year", 3000, -1, year -> last.next(year, 1));
        checks.refused("what", 2, -1, what -> last.next(2999, what));
        GuestStars first = checks.told("blur 5;" + narrow(0));
        checks.due("year 0", first.next(0, 0), -1);
        checks.due("year 2", first.next(2, 0), 0);
    }

    private static void sharesOfYears() {
        checks.sentence("SHARE of a YEAR: the greatest of WATCHES there");
        GuestStars stars = checks.told("watch 10 20 3;watch 15 25 7;watch 20 30 5;watch 20 20 10;watch 20 20 1;");
        int[] years = {9, 10, 14, 15, 19, 20, 21, 25, 26, 30, 31};
        int[] shares = {0, 3, 3, 7, 7, 10, 7, 7, 5, 5, 0};
        for (int k = 0; k < years.length; k++) {
            checks.due("share(" + years[k] + ")", stars.share(years[k]), shares[k]);
        }
    }

    private static void sharesWithout() {
        checks.sentence("SHARE: (0 without)");
        checks.due("no watches", new GuestStars().share(0), 0);
        checks.due("no watches", new GuestStars().share(1999), 0);
        GuestStars stars = checks.told("watch 0 0 4;watch 1999 1999 6;");
        checks.due("the first year", stars.share(0), 4);
        checks.due("the second year", stars.share(1), 0);
        checks.due("the last year but one", stars.share(1998), 0);
        checks.due("the last year", stars.share(1999), 6);
    }

    private static void noSuchShare() {
        checks.sentence("31. NONE: no such YEAR");
        checks.refused("share", 2000, -1, checks.told("watch 0 1999 4;")::share);
        checks.refused("share without watches", 2000, -1, new GuestStars()::share);
    }

    private static void chance(GuestStars stars, int d, long above, long below) {
        checks.due("above of chance(" + d + ")", stars.chance(d, 0), above);
        checks.due("below of chance(" + d + ")", stars.chance(d, 1), below);
    }

    private static void chanceOfPlaces() {
        checks.sentence("CHANCE by d: how many are d APART at most, by 7200, in least terms");
        GuestStars middle = checks.told(cloud(60, 30, 1));
        chance(middle, 0, 1, 7200);
        chance(middle, 1, 1, 800);
        chance(middle, 2, 1, 288);
        // Beyond y 0 and 59 there are no places; beyond x 0 and 119 they go on.
        GuestStars low = checks.told(cloud(0, 0, 1));
        chance(low, 0, 1, 7200);
        chance(low, 1, 1, 1200);
        chance(low, 10, 77, 2400);
        GuestStars high = checks.told(cloud(119, 59, 1));
        chance(high, 1, 1, 1200);
        chance(high, 10, 77, 2400);
        GuestStars near = checks.told(cloud(5, 1, 1));
        chance(near, 2, 1, 360);
    }

    private static void chanceOfAll() {
        checks.sentence("CHANCE by d (0 .. 60): of all places");
        GuestStars middle = checks.told(cloud(60, 30, 1));
        chance(middle, 29, 59 * 59, 7200);
        chance(middle, 30, 61, 120);
        chance(middle, 59, 119, 120);
        chance(middle, 60, 1, 1);
        GuestStars low = checks.told(cloud(0, 0, 1));
        chance(low, 58, 117 * 59 / 9, 800);
        chance(low, 59, 119, 120);
        chance(low, 60, 1, 1);
    }

    private static void chanceTogether() {
        checks.sentence("CHANCE: from each CLOUD, together");
        GuestStars stars = checks.told(cloud(10, 10, 1) + cloud(100, 50, 1) + cloud(50, 0, 1));
        chance(stars, 0, 1, 2400);
        chance(stars, 1, 1, 300);
    }

    private static void chanceWithoutClouds() {
        checks.sentence("CHANCE: without CLOUDS");
        chance(new GuestStars(), 0, 0, 1);
        chance(new GuestStars(), 60, 0, 1);
    }

    private static void noSuchChance() {
        checks.sentence("33. NONE: no such ones");
        GuestStars stars = checks.told(cloud(10, 10, 1));
        checks.refused("d", 61, -1, d -> stars.chance(d, 0));
        checks.refused("d", 61, -1, d -> stars.chance(d, 1));
        checks.refused("what", 2, -1, what -> stars.chance(60, what));
        checks.refused("d without clouds", 61, -1, d -> new GuestStars().chance(d, 0));
    }

    private static void drawnNumbers() {
        checks.sentence("DRAWS by a seed 0 .. 2147483647: for each draw x (modulo 120), y (modulo 60)");
        // The first places by seed 0, 1 (the well known row 16838, 5758, 10113, 17515 ..) and the last seed.
        int[] seeds = {0, 1, 2147483647};
        int[][] places = {{0, 48, 28, 37, 18, 7}, {38, 58, 33, 55, 91, 47}, {89, 29, 22, 18, 73, 26}};
        for (int k = 0; k < 3; k++) {
            for (int draw = 0; draw < 3; draw++) {
                GuestStars stars = checks.told(cloud(places[k][2 * draw], places[k][2 * draw + 1], 1));
                checks.due("up to draw " + draw + " of seed " + seeds[k], stars.draws(seeds[k], draw + 1, 0), 1);
                checks.due("ahead of it", draw == 0 ? 0 : stars.draws(seeds[k], draw, 0), 0);
            }
        }
        GuestStars stars = checks.told(cloud(38, 58, 1));
        checks.due("the same again", stars.draws(1, 1, 0) + stars.draws(1, 1, 0), 2);
    }

    private static void drawnNear() {
        checks.sentence("DRAWS: how many draws have a CLOUD d APART at most");
        // The draws by seed 1 are (38, 58) and (33, 55): 5 apart; with two clouds near a draw counts once.
        GuestStars stars = checks.told(cloud(38, 58, 1));
        checks.due("4", stars.draws(1, 2, 4), 1);
        checks.due("5", stars.draws(1, 2, 5), 2);
        GuestStars twins = checks.told(cloud(38, 58, 1) + cloud(38, 58, 1) + cloud(33, 55, 1));
        checks.due("twins", twins.draws(1, 1, 0), 1);
        checks.due("twins and more", twins.draws(1, 2, 5), 2);
        // Round x: (2, 10) by seed 0 is the fifth draw, 3 apart from 119.
        GuestStars round = checks.told(cloud(119, 10, 1));
        checks.due("round", round.draws(0, 5, 3) - round.draws(0, 4, 3), 1);
        checks.due("not so near", round.draws(0, 5, 2) - round.draws(0, 4, 2), 0);
        checks.due("without clouds", new GuestStars().draws(1, 500, 60), 0);
    }

    private static void drawnBounds() {
        checks.sentence("39. DRAWS (1 .. 500) by d (0 .. 60)");
        GuestStars stars = checks.told(cloud(38, 58, 1));
        checks.due("one", stars.draws(1, 1, 60), 1);
        checks.due("500", stars.draws(1, 500, 60), 500);
        checks.due("500 by the last seed", stars.draws(2147483647, 500, 60), 500);
        // The 500th draw by seed 1 is the only one at (33, 4).
        GuestStars last = checks.told(cloud(33, 4, 1));
        checks.due("499", last.draws(1, 499, 0), 0);
        checks.due("500", last.draws(1, 500, 0), 1);
    }

    private static void noSuchDraws() {
        checks.sentence("39. NONE: no such ones");
        GuestStars stars = checks.told(cloud(38, 58, 1));
        checks.refusedOutside("seed", 0, Integer.MAX_VALUE, -1, seed -> stars.draws(seed, 1, 60));
        checks.refusedOutside("many", 1, 500, -1, many -> stars.draws(1, many, 60));
        checks.refusedOutside("d", 0, 60, -1, d -> stars.draws(1, 1, d));
        checks.due("without clouds", new GuestStars().draws(1, 501, 0), -1);
    }
}
