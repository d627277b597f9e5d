import java.util.Random;

/** Promises 16 to 19, 27, 37, 38 and 40: tolls, readings, pairs, what may be said, doubts, luck. */
public final class PairsTest {
    private static final Checks checks = new Checks();

    public static void main(String[] args) {
        tolls();
        rockTolls();
        readings();
        mostPairsFirst();
        leastTollThen();
        leastCloudsThen();
        saids();
        wrongCalls();
        luck();
        crowds();
        checks.finish("PairsTest");
    }

    // A cloud that is born in just one year: the second plate is a year later and has doubled its size.
    private static String cloud(int x, int y, int born) {
        return "cloud " + x + " " + y + " plate " + (born + 1) + " 1 plate " + (born + 2) + " 2;";
    }

    private static void tolls() {
        GuestStars stars = checks.told("price 7;reign r 100 9;gate g 10 20;guest r 1 1 0 near g 4 east;guest r 1 1 0;"
            + cloud(14, 20, 100) + cloud(6, 20, 100) + cloud(10, 30, 100) + cloud(14, 20, 109) + cloud(14, 20, 110)
            + cloud(14, 20, 80) + cloud(74, 20, 100) + cloud(75, 20, 100));
        int[] first = {0, 7, 10, 0, 1, 2, 59, 58};
        int[] second = {20, 20, 20, 20, 21, 22, 20, 20};
        int[] readings = {0, 1, 0, 0, 0, 0, 1, 1};
        for (int c = 0; c < 8; c++) {
            checks.due("toll(0, " + c + ")", stars.toll(0, c), first[c]);
            checks.due("toll(1, " + c + ")", stars.toll(1, c), second[c]);
            checks.due("reading(0, " + c + ")", stars.reading(0, c), readings[c]);
            checks.due("reading(1, " + c + ")", stars.reading(1, c), -1);
        }
    }

    private static void rockTolls() {
        GuestStars stars = checks.told("rock 50 60;" + cloud(0, 0, 80) + cloud(0, 0, 79) + cloud(0, 0, 55)
            + cloud(0, 0, 30) + cloud(0, 0, 31) + cloud(0, 0, 1500));
        int[] tolls = {22, 21, 20, 22, 21, 164};
        for (int c = 0; c < tolls.length; c++) {
            checks.due("rock's toll " + c, stars.toll(0, c), tolls[c]);
        }
    }

    private static void readings() {
        String start = "reign r 100 9;gate g 10 20;guest r 1 1 0 near g 9 south west;guest r 1 1 0 near g 9 south;";
        String clouds = cloud(1, 11, 100) + cloud(19, 11, 100) + cloud(1, 29, 100) + cloud(19, 29, 100)
            + cloud(10, 20, 100);
        GuestStars dear = checks.told("price 4;" + start + clouds);
        GuestStars free = checks.told("price 0;" + start + clouds);
        GuestStars dearest = checks.told("price 99;" + start + clouds);
        int[] dearTolls = {0, 4, 4, 8, 9};
        int[] dearestTolls = {0, 18, 18, 18, 9};
        for (int c = 0; c < 5; c++) {
            checks.due("reading " + c, dear.reading(0, c), c % 4);
            checks.due("toll " + c, dear.toll(0, c), dearTolls[c]);
            checks.due("reading without price " + c, free.reading(0, c), c % 4);
            checks.due("toll without price " + c, free.toll(0, c), c < 4 ? 0 : 9);
            checks.due("reading at 99 " + c, dearest.reading(0, c), 0);
            checks.due("toll at 99 " + c, dearest.toll(0, c), dearestTolls[c]);
            checks.due("one way only " + c, free.reading(1, c), c == 2 || c == 3 ? 2 : 0);
        }
    }

    private static void mostPairsFirst() {
        // The first guest would rather have cloud 0, but the second one can have no other.
        GuestStars stars = checks.told("limit 5;gate a 0 10;gate b 3 10;rock 100 100 near a 1 east;"
            + "rock 100 100 near b 2 west;" + cloud(1, 10, 100) + cloud(6, 10, 100));
        checks.due("toll", stars.toll(0, 1), 5);
        checks.due("toll", stars.toll(1, 1), 5);
        checks.due("pairs", stars.pairs(0), 2);
        checks.due("tolls", stars.pairs(1), 5);
        GuestStars tight = checks.told("limit 4;gate a 0 10;gate b 5 10;rock 100 100 near a 1 east;"
            + "rock 100 100 near b 3 west;" + cloud(1, 10, 100) + cloud(5, 10, 100));
        checks.due("pairs of limit", tight.pairs(0), 2);
        GuestStars one = checks.told("limit 3;gate a 0 10;gate b 5 10;rock 100 100 near a 1 east;"
            + "rock 100 100 near b 4 west;" + cloud(1, 10, 100) + cloud(5, 10, 100));
        checks.due("pairs by one cloud", one.pairs(0), 1);
        checks.due("the first has it", one.pair(0), 0);
        checks.due("the second none", one.pair(1), -1);
        checks.due("toll in all", one.pairs(1), 0);
    }

    private static void leastTollThen() {
        GuestStars stars = checks.told("gate a 0 10;gate b 5 10;rock 100 100 near a 1 east;rock 100 100 near b 1 east;"
            + cloud(5, 10, 100) + cloud(2, 10, 100));
        checks.due("pairs", stars.pairs(0), 2);
        checks.due("toll in all", stars.pairs(1), 2);
        checks.due("pair(0)", stars.pair(0), 1);
        checks.due("pair(1)", stars.pair(1), 0);
        checks.due("doubt", stars.doubt(0, true), true);
        checks.due("pair(0) doubted", stars.pair(0), -1);
        checks.due("pair(1)", stars.pair(1), 0);
        checks.due("doubted", stars.doubted(), 1);
        checks.due("doubted so already", stars.doubt(0, true), false);
        checks.due("doubt no more", stars.doubt(0, false), true);
        checks.due("so already", stars.doubt(0, false), false);
        checks.due("pair(0)", stars.pair(0), 1);
        checks.due("known(1)", stars.known(1), true);
        checks.due("pairs of one", stars.pairs(0), 1);
        checks.due("pair(1) not known", stars.pair(1), -1);
        checks.due("pair(0) alone", stars.pair(0), 1);
        checks.due("doubt of one not known", stars.doubt(1, true), true);
        checks.due("doubted", stars.doubted(), 2);
        checks.due("known(-1)", stars.known(-1), true);
        checks.due("pairs", stars.pairs(0), 1);
    }

    private static void leastCloudsThen() {
        GuestStars stars = checks.told("rock 100 100;rock 100 100;rock 100 100;" + cloud(5, 5, 100) + cloud(50, 50, 100));
        checks.due("pair(0)", stars.pair(0), 0);
        checks.due("pair(1)", stars.pair(1), 1);
        checks.due("pair(2)", stars.pair(2), -1);
        checks.due("toll", stars.pairs(1), 40);
        GuestStars none = checks.told("limit 19;rock 100 100;" + cloud(5, 5, 100));
        checks.due("beyond the limit", none.pairs(0), 0);
        checks.due("no toll", none.pairs(1), 0);
    }

    private static void saids() {
        GuestStars stars = checks.told("limit 6;gate a 0 10;gate b 50 10;rock 100 100 near a 1 east;"
            + "rock 100 100 near b 1 east;rock 100 100 near b 5 north;"
            + cloud(1, 10, 100) + cloud(4, 10, 100) + cloud(50, 10, 100) + cloud(90, 10, 100));
        checks.due("its guest alone, which can with another", stars.said(0), 3);
        checks.due("in no pair", stars.said(1), 1);
        checks.due("others could be", stars.said(2), 2);
        checks.due("no guest", stars.said(3), 0);
        stars.doubt(2, true);
        checks.due("its guest alone, with no other", stars.said(2), 4);
        stars.known(1);
        checks.due("none known", stars.said(2), 0);
        stars.doubt(0, true);
        checks.due("none trusted", stars.said(0), 0);
    }

    private static void wrongCalls() {
        GuestStars stars = checks.told("rock 1 1;" + cloud(1, 1, 100));
        int[] wrong = {-1, 1, -2147483648, 2147483647};
        for (int bad : wrong) {
            checks.due("toll", stars.toll(bad, 0), -1);
            checks.due("toll", stars.toll(0, bad), -1);
            checks.due("reading", stars.reading(bad, 0), -1);
            checks.due("reading", stars.reading(0, bad), -1);
            checks.due("pair", stars.pair(bad), -1);
            checks.due("said", stars.said(bad), -1);
            checks.due("doubt", stars.doubt(bad, true), false);
            checks.due("doubt", stars.doubt(bad, false), false);
            checks.due("pairs", stars.pairs(bad == 1 ? 2 : bad), -1);
        }
        checks.due("nothing doubted", stars.doubted(), 0);
        checks.due("luck of 0 draws", stars.luck(0, 0), -1);
        checks.due("luck of 21 draws", stars.luck(0, 21), -1);
        checks.due("luck of seed -1", stars.luck(-1, 1), -1);
        checks.due("luck of the first seed", stars.luck(0, 20), 20);
        checks.due("luck of the last seed", stars.luck(2147483647, 20), 20);
    }

    private static void luck() {
        // By seed 1 the numbers are 16838, 5758, 10113, 17515, 31051, 5627 (the well known row).
        String text = "limit 0;gate g 0 0;rock 100 100 near g 1 east;rock 100 100;";
        GuestStars first = checks.told(text + cloud(16838 % 120, 5758 % 60, 100) + cloud(1, 0, 100));
        checks.due("pairs", first.pairs(0), 1);
        checks.due("the first draw", first.luck(1, 1), 1);
        checks.due("not the second", first.luck(1, 2), 1);
        checks.due("another seed", first.luck(2, 1), 0);
        GuestStars second = checks.told("limit 0;gate g 0 0;rock 100 100 near g 1 east;rock 9 9 near g 1 west;"
            + cloud(31051 % 120, 5627 % 60, 100) + cloud(1, 0, 100));
        checks.due("a guest of another year draws too", second.luck(1, 2), 1);
        second.doubt(1, true);
        checks.due("and a doubted one", second.luck(1, 2), 1);
        second.known(1);
        checks.due("and one not known", second.luck(1, 2), 1);
        second.doubt(0, true);
        checks.due("no pairs are always reached", second.luck(1, 20), 20);
    }

    private static void crowds() {
        Random random = new Random(77);
        for (int run = 0; run < 400; run++) {
            StringBuilder text = new StringBuilder("limit " + (random.nextInt(3) == 0 ? 999 : random.nextInt(30)) + ";price "
                + random.nextInt(3) + ";gate g " + random.nextInt(120) + " " + random.nextInt(60) + ";");
            int guests = 8 + random.nextInt(5);
            int clouds = 6 + random.nextInt(5);
            int spread = 1 + random.nextInt(run % 2 == 0 ? 4 : 20);
            for (int g = 0; g < guests; g++) {
                String[] sides = {"north", "south", "east", "west"};
                text.append("rock 0 ").append(random.nextInt(9)).append(random.nextInt(8) == 0 ? "" : " near g "
                    + (1 + random.nextInt(spread)) + " " + sides[random.nextInt(4)]).append(';');
            }
            for (int c = 0; c < clouds; c++) {
                text.append(cloud(random.nextInt(spread * 2), random.nextInt(Math.min(60, spread * 2)), random.nextInt(90)));
            }
            checks.due("it fits", text.length() <= 800, true);
            GuestStars stars = checks.told(text.toString());
            Oracle oracle = new Oracle(text.toString());
            oracle.read();
            for (int k = 0; k < 3; k++) {
                int toll = 0;
                int[] want = oracle.pairs();
                for (int g = 0; g < guests; g++) {
                    checks.due("pair(" + g + ") of " + text, stars.pair(g), want[g]);
                    toll += want[g] < 0 ? 0 : oracle.toll(g, want[g]);
                }
                checks.due("toll of " + text, stars.pairs(1), toll);
                int seed = random.nextInt(Integer.MAX_VALUE);
                checks.due("luck of " + text, stars.luck(seed, 5), oracle.luck(seed, 5));
                int one = random.nextInt(guests);
                oracle.doubted[one] = !oracle.doubted[one];
                stars.doubt(one, oracle.doubted[one]);
            }
        }
    }
}
