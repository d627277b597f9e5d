/** The edges of pairs, events and what follows (promises 18 to 27, 30, 32, 37, 38, 40, 41), sentence by sentence. */
public final class TogetherEdgesTest {
    private static final Checks checks = new Checks();

    public static void main(String[] args) {
        limitAtMost();
        limitEnds();
        eachInOneAtMost();
        theMost();
        theLeastToll();
        theLeastNumbers();
        noneLast();
        theFullest();
        pairsWithout();
        anotherPairsWhat();
        noPair();
        oneNoRock();
        oneYear();
        daysFiveApart();
        oneMonth();
        placesThreeApart();
        oneDoubtedOrNot();
        noSuchOne();
        knownBy();
        knownAll();
        noSuchKnown();
        eventLeast();
        eventWithout();
        eventsJoined();
        slipsOfEach();
        slipsOfNone();
        noSuchSlips();
        copiedBooks();
        copiedFewest();
        copiedFromNone();
        fromStraightOrByOthers();
        noSuchFrom();
        worthProduct();
        worthOfCopies();
        worthMost();
        worthInNone();
        saidOfEach();
        saidOfThese();
        noSuchSaid();
        eventsHowMany();
        manyEvents();
        manyShares();
        manyNoughtByNought();
        manyOfSorts();
        noSuchMany();
        doubts();
        noSuchDoubt();
        doubtedBits();
        luckOfDraws();
        luckOfGates();
        luckOfPairs();
        noSuchLuck();
        counts();
        anotherCount();
        checks.finish("TogetherEdgesTest");
    }

    /** A cloud that is born in just one year: the second plate is a year later and has twice the size. */
    private static String cloud(int x, int y, int born) {
        return "cloud " + x + " " + y + " plate " + (born + 1) + " 1 plate " + (born + 2) + " 2;";
    }

    private static void limitAtMost() {
        checks.sentence("They can GO TOGETHER if it is LIMIT at most");
        String text = "gate g 10 10;rock 100 100 near g 1 north;" + cloud(15, 11, 100);
        checks.due("below", checks.told("limit 4;" + text).pairs(0), 0);
        checks.due("just so much", checks.told("limit 5;" + text).pairs(0), 1);
        checks.due("more", checks.told("limit 6;" + text).pairs(0), 1);
        checks.due("20 without near", checks.told("rock 100 100;" + cloud(0, 0, 100)).pairs(0), 1);
        checks.due("21 without near", checks.told("rock 100 100;" + cloud(0, 0, 110)).pairs(0), 0);
    }

    private static void limitEnds() {
        checks.sentence("LIMIT 0 .. 999");
        String text = "gate g 10 10;rock 100 100 near g 1 north;" + cloud(10, 11, 100) + cloud(11, 11, 100);
        GuestStars none = checks.told("limit 0;" + text);
        checks.due("limit 0", none.pairs(0), 1);
        checks.due("said", none.said(0), 4);
        checks.due("said", none.said(1), 0);
        // Born in -9998: years 1 and 0 are 9999 and 9998 outside, which both cost 999, and the place costs 1 more or nothing.
        String far = "cloud 10 10 plate 0 9998 plate 1 9999;limit 999;gate g 10 10;";
        checks.due("1000", checks.told(far + "rock 1 1 near g 1 north;").toll(0, 0), 1000);
        checks.due("1000 isn't", checks.told(far + "rock 1 1 near g 1 north;").pairs(0), 0);
        checks.due("1000 isn't", checks.told(far + "rock 0 0 near g 1 north;").pairs(0), 0);
        GuestStars just = checks.told("cloud 10 11 plate 0 9998 plate 1 9999;limit 999;gate g 10 10;rock 0 0 near g 1 north;");
        checks.due("999", just.toll(0, 0), 999);
        checks.due("999 is", just.pairs(0), 1);
        checks.due("999 in all", just.pairs(1), 999);
    }

    private static void eachInOneAtMost() {
        checks.sentence("PAIRS: each GUEST and CLOUD in one at most");
        GuestStars guests = checks.told("rock 100 100;rock 100 100;rock 100 100;" + cloud(0, 0, 100));
        checks.due("one cloud", guests.pairs(0), 1);
        checks.row("pair", new long[] {0, -1, -1}, guests::pair);
        GuestStars clouds = checks.told("rock 100 100;" + cloud(0, 0, 100) + cloud(0, 0, 100) + cloud(0, 0, 100));
        checks.due("one guest", clouds.pairs(0), 1);
        checks.due("pair", clouds.pair(0), 0);
    }

    private static void theMost() {
        checks.sentence("PAIRS: the most");
        // Guest 0 is at cloud 0, guest 1 can with cloud 0 alone: together they cost far more than guest 0 by itself.
        GuestStars stars = checks.told("limit 20;price 99;gate a 10 10;gate c 29 9;rock 100 100 near a 1 north;"
            + "rock 100 100 near c 1 north;" + cloud(10, 11, 100) + cloud(116, 11, 100));
        checks.row("tolls of guest 0", new long[] {0, 14}, cloud -> stars.toll(0, cloud));
        checks.row("tolls of guest 1", new long[] {19, 33}, cloud -> stars.toll(1, cloud));
        checks.due("pairs", stars.pairs(0), 2);
        checks.due("toll in all", stars.pairs(1), 33);
        checks.row("pair", new long[] {1, 0}, stars::pair);
    }

    private static void theLeastToll() {
        checks.sentence("PAIRS: of several the least TOLL in all");
        // Guests at x 10 and 16, clouds at x 15 and 12: crosswise 2 and 1, straight 5 and 4.
        GuestStars stars = checks.told("price 99;gate a 10 10;gate b 16 10;rock 100 100 near a 1 north;rock 100 100 near b 1 north;"
            + cloud(15, 11, 100) + cloud(12, 11, 100));
        checks.row("pair", new long[] {1, 0}, stars::pair);
        checks.due("toll in all", stars.pairs(1), 3);
        // The guest that is nearer has the one cloud.
        GuestStars nearer = checks.told("price 99;gate a 10 10;gate b 13 10;rock 100 100 near a 1 north;rock 100 100 near b 1 north;"
            + cloud(12, 11, 100));
        checks.row("pair", new long[] {-1, 0}, nearer::pair);
        checks.due("toll in all", nearer.pairs(1), 1);
    }

    private static void theLeastNumbers() {
        checks.sentence("PAIRS: of several, GUEST by GUEST, the CLOUD of the least number");
        GuestStars stars = checks.told("rock 100 100;rock 100 100;rock 100 100;" + cloud(0, 0, 100) + cloud(0, 0, 100) + cloud(0, 0, 100));
        checks.row("pair", new long[] {0, 1, 2}, stars::pair);
        // All that can go together costs 20: guest 0 has the least cloud, guest 1 (that can with two of three) the next.
        GuestStars some = checks.told("limit 20;price 99;gate a 10 10;rock 100 100;rock 100 100 near a 20 east;"
            + cloud(10, 10, 100) + cloud(50, 10, 100) + cloud(55, 10, 100));
        checks.due("toll", some.toll(1, 1), 20);
        checks.due("toll", some.toll(1, 0), 20);
        checks.row("pair", new long[] {0, 1}, some::pair);
        // All tolls are 3: guest 0 can with clouds 0 and 1, guest 1 with 0 and 2; cloud 0 for guest 0 goes ahead of 1 and 0.
        String cross = "limit 3;price 99;gate a 10 10;gate b 16 10;" + "@rock 100 100 near a 1 north;rock 100 100 near b 1 north;"
            + cloud(13, 11, 100) + cloud(7, 11, 100) + cloud(19, 11, 100);
        checks.row("pair", new long[] {0, 2}, checks.told(cross.replace("@", ""))::pair);
        checks.row("as the last ones", new long[] {-1, -1, -1, -1, -1, -1, -1, -1, -1, -1, 0, 2},
            checks.told(cross.replace("@", "rock 900 900;".repeat(10)))::pair);
    }

    private static void noneLast() {
        checks.sentence("PAIRS: (none last)");
        GuestStars stars = checks.told("rock 100 100;rock 100 100;rock 100 100;rock 100 100;" + cloud(0, 0, 100) + cloud(0, 0, 100));
        checks.row("pair", new long[] {0, 1, -1, -1}, stars::pair);
        // Either of two guests could have the one cloud for the same toll.
        GuestStars either = checks.told("limit 20;price 99;gate b 50 10;rock 100 100 near b 1 north;"
            + "rock 100 100 near b 1 north;" + cloud(30, 11, 100));
        checks.row("toll", new long[] {20, 20}, guest -> either.toll(guest, 0));
        checks.row("pair", new long[] {0, -1}, either::pair);
        GuestStars last = checks.told("rock9 9;".repeat(10) + "rock100 100;".repeat(2) + "cloud0 0plate901 1plate902 2;".repeat(9)
            + cloud(0, 0, 100));
        checks.row("the last cloud or none", new long[] {-1, -1, -1, -1, -1, -1, -1, -1, -1, -1, 9, -1}, last::pair);
    }

    private static void theFullest() {
        checks.sentence("PAIRS: GUESTS, at most 12; CLOUDS, at most 10");
        StringBuilder text = new StringBuilder("limit 999;");
        for (int k = 0; k < 12; k++) {
            text.append("rock0 0;");
        }
        for (int k = 0; k < 10; k++) {
            text.append("cloud0 0plate0 4999plate2 5000;");
        }
        GuestStars stars = checks.told(text.toString());
        checks.due("toll", stars.toll(0, 0), 1019);
        checks.due("beyond the limit", stars.pairs(0), 0);
        GuestStars full = checks.told(text.toString().replace("4999plate2 5000", "4899plate2 4900"));
        checks.due("toll", full.toll(11, 9), 999);
        checks.due("pairs", full.pairs(0), 10);
        checks.due("toll in all", full.pairs(1), 9990);
        checks.row("pair", new long[] {0, 1, 2, 3, 4, 5, 6, 7, 8, 9, -1, -1}, full::pair);
        for (int g = 0; g < 10; g++) {
            full.doubt(g, true);
        }
        checks.row("pair", new long[] {-1, -1, -1, -1, -1, -1, -1, -1, -1, -1, 0, 1}, full::pair);
    }

    private static void pairsWithout() {
        checks.sentence("18. PAIRS: how many, of none");
        for (String text : new String[] {"", "rock 100 100;", cloud(0, 0, 100), "limit 19;rock 100 100;" + cloud(0, 0, 100)}) {
            checks.due("pairs of " + text, checks.told(text).pairs(0), 0);
            checks.due("toll of " + text, checks.told(text).pairs(1), 0);
        }
    }

    private static void anotherPairsWhat() {
        checks.sentence("18. NONE for another what");
        checks.refused("pairs", 2, -1, checks.told("rock 100 100;" + cloud(0, 0, 100))::pairs);
        checks.refused("pairs of none", 2, -1, new GuestStars()::pairs);
    }

    private static void noPair() {
        checks.sentence("19. NONE: none, no such GUEST");
        GuestStars stars = checks.told("rock 100 100;rock 200 200;" + cloud(0, 0, 100));
        checks.due("pair", stars.pair(0), 0);
        checks.due("none", stars.pair(1), -1);
        checks.refused("guest", 2, -1, stars::pair);
        checks.refused("guest of none", 0, -1, checks.told(cloud(0, 0, 100))::pair);
        stars.doubt(0, true);
        checks.due("doubted", stars.pair(0), -1);
        stars.doubt(0, false);
        stars.known(0);
        checks.due("not known", stars.pair(0), -1);
    }

    private static void oneNoRock() {
        checks.sentence("ONE: two GUESTS (no ROCK)");
        GuestStars stars = checks.told("reign r 0 1;guest r 1 1 0;rock 0 0;rock 0 0;guest r 1 1 0;");
        checks.due("guests", stars.one(0, 3), 1);
        checks.due("guest and rock", stars.one(0, 1), 0);
        checks.due("rock and guest", stars.one(1, 0), 0);
        checks.due("rocks", stars.one(1, 2), 0);
    }

    private static void oneYear() {
        checks.sentence("ONE: of one YEAR");
        // The last day of year 0 and the first of year 1 are a day apart; year 1 is told by two reigns.
        GuestStars stars = checks.told("reign r 0 2;reign s 1 1;guest r 1 12 53;guest r 2 1 54;guest s 1 1 54;guest r 1 1 59;guest r 2 1 53;");
        checks.row("days", new long[] {353, 354, 354, -1, -1}, stars::day);
        checks.due("another year", stars.one(0, 1), 0);
        checks.due("one year by two reigns", stars.one(1, 2), 1);
        checks.due("one month of another year", stars.one(3, 4), 0);
    }

    private static void daysFiveApart() {
        checks.sentence("ONE: DAYS 5 apart at most");
        // Days 10, 15, 16, 5, 4, 10; then 29 and 30, 34, 35 of the next month.
        GuestStars stars = checks.told("reign r 0 1;guest r 1 1 10;guest r 1 1 15;guest r 1 1 16;guest r 1 1 5;guest r 1 1 4;guest r 1 1 10;"
            + "guest r 1 1 29;guest r 1 2 30;guest r 1 2 34;guest r 1 2 35;");
        int[][] due = {{0, 1, 1}, {0, 2, 0}, {0, 3, 1}, {0, 4, 0}, {0, 5, 1}, {6, 7, 1}, {6, 8, 1}, {6, 9, 0}};
        for (int[] one : due) {
            checks.due("one(" + one[0] + ", " + one[1] + ")", stars.one(one[0], one[1]), one[2]);
            checks.due("one(" + one[1] + ", " + one[0] + ")", stars.one(one[1], one[0]), one[2]);
        }
    }

    private static void oneMonth() {
        checks.sentence("ONE: (of one MONTH, if one has none)");
        // Guests without a day: 0 of month 1, 1 of month 2, 4 of month 1; with one: 2 of month 1, 3 of month 2.
        GuestStars stars = checks.told("reign r 0 1;guest r 1 1 59;guest r 1 2 0;guest r 1 1 0;guest r 1 2 30;guest r 1 1 40;guest r 1 1 29;");
        int[][] due = {{0, 2, 1}, {0, 5, 1}, {0, 3, 0}, {0, 1, 0}, {0, 4, 1}, {1, 3, 1}, {1, 2, 0}, {2, 5, 0}};
        for (int[] one : due) {
            checks.due("one(" + one[0] + ", " + one[1] + ")", stars.one(one[0], one[1]), one[2]);
            checks.due("one(" + one[1] + ", " + one[0] + ")", stars.one(one[1], one[0]), one[2]);
        }
    }

    private static void placesThreeApart() {
        checks.sentence("ONE: places by READING 0 3 APART at most (if both have such)");
        // x 1, 4, 5, 118, 117, then y 4, 5 more, and none.
        GuestStars stars = checks.told("reign r 0 1;gate g 0 20;gate h 1 20;guest r 1 1 0 near g 1 east;guest r 1 1 0 near g 4 east;"
            + "guest r 1 1 0 near g 5 east;guest r 1 1 0 near g 2 west;guest r 1 1 0 near g 3 west;guest r 1 1 0 near h 3 north;"
            + "guest r 1 1 0 near h 4 north;guest r 1 1 0;guest r 1 1 0 near g 1 west;");
        int[][] due = {{0, 1, 1}, {0, 2, 0}, {0, 3, 1}, {0, 4, 0}, {0, 5, 1}, {0, 6, 0}, {7, 2, 1}, {7, 4, 1}, {0, 8, 1}, {2, 8, 0}};
        for (int[] one : due) {
            checks.due("one(" + one[0] + ", " + one[1] + ")", stars.one(one[0], one[1]), one[2]);
            checks.due("one(" + one[1] + ", " + one[0] + ")", stars.one(one[1], one[0]), one[2]);
        }
        // By other readings the places would be the same.
        GuestStars turned = checks.told("reign r 0 1;gate g 0 20;guest r 1 1 0 near g 5 east;guest r 1 1 0 near g 5 west;");
        checks.due("by reading 0", turned.one(0, 1), 0);
    }

    private static void oneDoubtedOrNot() {
        checks.sentence("20. DOUBTED or not");
        GuestStars stars = checks.told("reign r 0 1;guest r 1 1 0;guest r 1 1 0;guest r 1 5 0;");
        stars.doubt(0, true);
        stars.doubt(2, true);
        checks.due("one", stars.one(0, 1), 1);
        checks.due("not one", stars.one(1, 2), 0);
        stars.known(0);
        checks.due("not known", stars.one(0, 1), 1);
    }

    private static void noSuchOne() {
        checks.sentence("20. NONE: no such ones, both the same");
        GuestStars stars = checks.told("reign r 0 1;guest r 1 1 0;guest r 1 1 0;rock 0 0;");
        checks.refused("the first", 3, -1, a -> stars.one(a, 0));
        checks.refused("the second", 3, -1, b -> stars.one(0, b));
        checks.refused("both", 3, -1, a -> stars.one(a, a));
        checks.row("the same", new long[] {-1, -1, -1}, a -> stars.one(a, a));
    }

    private static void knownBy() {
        checks.sentence("21. KNOWN by n from now on: true (the first n GUESTS)");
        GuestStars stars = checks.told("rock 100 100;rock 100 100;rock 100 100;" + cloud(0, 0, 100));
        for (int n = 0; n <= 3; n++) {
            int known = n;
            checks.due("known(" + n + ")", stars.known(n), true);
            checks.due("count(12)", stars.count(12), n);
            checks.due("events()", stars.events(), n);
            checks.row("event", new long[] {n > 0 ? 0 : -1, n > 1 ? 1 : -1, n > 2 ? 2 : -1}, guest -> stars.event(guest));
            checks.due("pairs(0)", stars.pairs(0), known > 0 ? 1 : 0);
        }
        checks.due("the same n again", stars.known(3), true);
        checks.due("0 of none", new GuestStars().known(0), true);
    }

    private static void knownAll() {
        checks.sentence("21. (-1: all); KNOWN by n (all at first)");
        GuestStars stars = checks.told("rock 100 100;rock 100 100;");
        checks.due("at first", stars.count(12), 2);
        stars.known(0);
        checks.due("known(-1)", stars.known(-1), true);
        checks.due("count(12)", stars.count(12), 2);
        checks.due("events()", stars.events(), 2);
        checks.due("known(-1) of none", new GuestStars().known(-1), true);
    }

    private static void noSuchKnown() {
        checks.sentence("21. false: no such n (0 .. GUESTS)");
        GuestStars stars = checks.told("rock 100 100;rock 100 100;");
        stars.known(1);
        for (int n : new int[] {-2, 3, 12, Integer.MIN_VALUE, Integer.MAX_VALUE}) {
            checks.due("known(" + n + ")", stars.known(n), false);
            checks.due("it stays", stars.count(12), 1);
            checks.due("it stays", stars.events(), 1);
        }
        checks.due("1 of none", new GuestStars().known(1), false);
    }

    private static void eventLeast() {
        checks.sentence("22. The least GUEST of a GUEST's EVENT");
        GuestStars stars = checks.told("reign r 0 1;rock 0 0;guest r 1 1 10;guest r 1 5 0;guest r 1 1 0;guest r 1 1 5;guest r 1 5 1;");
        checks.row("event", new long[] {0, 1, 2, 1, 1, 2}, stars::event);
        stars.doubt(1, true);
        checks.row("without the least", new long[] {0, -1, 2, 3, 3, 2}, stars::event);
    }

    private static void eventWithout() {
        checks.sentence("22. NONE: it is DOUBTED, not KNOWN, no such one");
        GuestStars stars = checks.told("rock 0 0;rock 0 0;rock 0 0;");
        stars.doubt(0, true);
        stars.known(2);
        checks.row("event", new long[] {-1, 1, -1}, stars::event);
        checks.refused("event", 3, -1, stars::event);
        checks.refused("event of none", 0, -1, new GuestStars()::event);
    }

    private static void eventsJoined() {
        checks.sentence("EVENTS: those joined by that are one");
        // A chain by days 25, 20 .. 0, told from its ends to the middle: the last one joins all.
        GuestStars stars = checks.told("reign r 0 1;guest r 1 1 0;guest r 1 1 25;guest r 1 1 5;guest r 1 1 20;guest r 1 1 10;guest r 1 1 15;");
        checks.row("event", new long[] {0, 0, 0, 0, 0, 0}, stars::event);
        checks.due("events()", stars.events(), 1);
        checks.due("the ends aren't one", stars.one(0, 1), 0);
        stars.known(5);
        checks.row("without the last", new long[] {0, 1, 0, 1, 0, -1}, stars::event);
        stars.known(-1);
        stars.doubt(4, true);
        checks.row("a doubted one joins none", new long[] {0, 1, 0, 1, -1, 1}, stars::event);
    }

    private static void slipsOfEach() {
        checks.sentence("SLIPS: how many of MONTH, ROUND, GATE, INCHES, SIDES, lasts, bright, moves, tail are unlike");
        String like = "near g 1 north lasts 1 bright 1 moves 1 tail;";
        String text = "reign r 0 9;gate g 0 0;gate h 0 0;book b;guest r 1 1 0 " + like;
        String[] others = {"guest r 1 2 0 " + like, "guest r 1 1 1 " + like, "guest r 1 1 0 " + like.replace("g 1", "h 1"),
            "guest r 1 1 0 " + like.replace("g 1", "g 2"), "guest r 1 1 0 " + like.replace("north", "south"),
            "guest r 1 1 0 " + like.replace("north", "north east"), "guest r 1 1 0 " + like.replace("lasts 1", "lasts 2"),
            "guest r 1 1 0 " + like.replace("bright 1", "bright 0"), "guest r 1 1 0 " + like.replace("moves 1", "moves 99"),
            "guest r 1 1 0 " + like.replace(" tail", "")};
        for (String other : others) {
            GuestStars stars = checks.told(text + other);
            checks.due("slips of " + other, stars.slips(0, 1), 1);
            checks.due("back", stars.slips(1, 0), 1);
        }
        GuestStars all = checks.told(text + "guest r 1 2 1 near h 2 south;guest r 1 1 0;rock 0 0;guest r 1 2 1;");
        checks.due("all nine", all.slips(0, 1), 9);
        checks.due("without near: gate, inches, sides and the rest", all.slips(0, 2), 7);
        checks.due("of a rock", all.slips(2, 3), 1);
        checks.due("all but the year", all.slips(0, 4), 9);
    }

    private static void slipsOfNone() {
        checks.sentence("SLIPS: 0, if only YEAR, BOOK and worth are unlike");
        GuestStars stars = checks.told("reign r 0 9;book b;guest r 1 1 0;guest r 9 1 0 in b worth 1;rock 0 0;rock 5 9 in b worth 2;");
        checks.due("guests", stars.slips(0, 1), 0);
        checks.due("rocks", stars.slips(2, 3), 0);
        stars.doubt(0, true);
        stars.known(0);
        checks.due("doubted or not, known or not", stars.slips(0, 1), 0);
    }

    private static void noSuchSlips() {
        checks.sentence("23. NONE: no such ones, both the same");
        GuestStars stars = checks.told("rock 0 0;rock 0 0;rock 0 0;");
        checks.refused("the first", 3, -1, a -> stars.slips(a, 0));
        checks.refused("the second", 3, -1, b -> stars.slips(0, b));
        checks.row("the same", new long[] {-1, -1, -1}, a -> stars.slips(a, a));
        checks.due("others", stars.slips(0, 1), 0);
    }

    private static void copiedBooks() {
        checks.sentence("COPIED: of the GUESTS of its EVENT whose BOOK its BOOK is copied from (straight or by others)");
        GuestStars stars = checks.told("reign r 0 1;book a;book b from a;book c from b;book d;guest r 1 1 0 in c;guest r 1 1 0 in a;"
            + "guest r 1 1 0 in d;guest r 1 1 0;guest r 1 1 0 in c;guest r 1 5 0 in b;guest r 1 1 0 in a;rock 0 0 in c;");
        checks.row("copied", new long[] {1, -1, -1, -1, 1, -1, -1, -1}, stars::copied);
        stars.doubt(1, true);
        checks.row("without guest 1", new long[] {6, -1, -1, -1, 6, -1, -1, -1}, stars::copied);
        stars.known(6);
        checks.row("without guest 6", new long[] {-1, -1, -1, -1, -1, -1, -1, -1}, stars::copied);
    }

    private static void copiedFewest() {
        checks.sentence("COPIED: that with the fewest SLIPS, of several the least number");
        GuestStars stars = checks.told("reign r 0 1;book a;book b from a;book c from b;guest r 1 1 0 in a lasts 1 bright 1;guest r 1 1 0 in b lasts 1;"
            + "guest r 1 1 0 in a bright 1;guest r 1 1 0 in a;guest r 1 1 0 in c lasts 5 bright 5;guest r 1 1 0 in c;guest r 1 1 0 in c bright 1;"
            + "guest r 1 1 0 in b lasts 5;");
        checks.due("all with two slips: the least number", stars.copied(4), 7);
        checks.due("none", stars.copied(5), 3);
        checks.due("none", stars.copied(6), 2);
        checks.due("one by the book between", stars.copied(1), 0);
        stars.doubt(7, true);
        checks.due("two slips each: the least number", stars.copied(4), 0);
        stars.doubt(0, true);
        checks.due("and the next", stars.copied(4), 1);
    }

    private static void copiedFromNone() {
        checks.sentence("24. NONE: from none, no such one");
        GuestStars stars = checks.told("reign r 0 1;book a;book b from a;guest r 1 1 0 in a;guest r 1 1 0 in b;guest r 1 1 0;");
        checks.row("copied", new long[] {-1, 0, -1}, stars::copied);
        checks.refused("guest", 3, -1, stars::copied);
        checks.refused("guest of none", 0, -1, new GuestStars()::copied);
        stars.doubt(1, true);
        checks.due("doubted", stars.copied(1), -1);
        stars.doubt(1, false);
        stars.known(1);
        checks.due("not known", stars.copied(1), -1);
    }

    private static void fromStraightOrByOthers() {
        checks.sentence("25. Whether a BOOK is copied from another one, straight or by others (1, 0)");
        GuestStars stars = checks.told("book a;book b from a;book c from b;book d from c;book e from d;book f from e;book g from f;book h from g;");
        for (int book = 0; book < 8; book++) {
            for (int other = 0; other < 8; other++) {
                checks.due("from(" + book + ", " + other + ")", stars.from(book, other), other < book ? 1 : 0);
            }
        }
        GuestStars tree = checks.told("book a;book b from a;book c from a;book d from c;book e;");
        String[] due = {"00000", "10000", "10000", "10100", "00000"};
        for (int book = 0; book < 5; book++) {
            for (int other = 0; other < 5; other++) {
                checks.due("tree: from(" + book + ", " + other + ")", tree.from(book, other), due[book].charAt(other) - '0');
            }
        }
    }

    private static void noSuchFrom() {
        checks.sentence("25. NONE: no such ones");
        GuestStars stars = checks.told("book a;book b from a;");
        checks.refused("the book", 2, -1, book -> stars.from(book, 0));
        checks.refused("the other", 2, -1, other -> stars.from(1, other));
        checks.refused("both", 2, -1, book -> stars.from(book, book));
        checks.due("of none", new GuestStars().from(0, 0), -1);
    }

    private static void worth(GuestStars stars, int guest, long above, long below) {
        checks.due("above of worth(" + guest + ")", stars.worth(guest, 0), above);
        checks.due("below of worth(" + guest + ")", stars.worth(guest, 1), below);
    }

    private static void worthProduct() {
        checks.sentence("WORTH of an EVENT: 1 less the product of what each of its GUESTS lacks to 10 of 10, in least terms");
        GuestStars stars = checks.told("reign r 0 1;guest r 1 1 0 worth 1;guest r 1 1 0 worth 2;guest r 1 5 0 worth 5;rock 0 0 worth 4;guest r 1 9 0;"
            + "guest r 1 5 1 worth 5;guest r 1 5 2 worth 8;");
        worth(stars, 0, 7, 25);
        worth(stars, 1, 7, 25);
        worth(stars, 2, 19, 20);
        worth(stars, 6, 19, 20);
        worth(stars, 3, 2, 5);
        worth(stars, 4, 9, 10);
        stars.doubt(1, true);
        worth(stars, 0, 1, 10);
    }

    private static void worthOfCopies() {
        checks.sentence("WORTH: (if COPIED, counts as none: it isn't in the product)");
        GuestStars stars = checks.told("reign r 0 1;book a;book b from a;guest r 1 1 0 in b worth 5;guest r 1 1 0 in a worth 3;guest r 1 1 0 in b worth 8;"
            + "guest r 1 1 0 worth 4;");
        worth(stars, 0, 29, 50);
        worth(stars, 1, 29, 50);
        worth(stars, 2, 29, 50);
        stars.doubt(1, true);
        // 1 less 5 by 10 times 2 by 10 times 6 by 10.
        worth(stars, 0, 47, 50);
        checks.due("the doubted one", stars.worth(1, 0), -1);
    }

    private static void worthMost() {
        checks.sentence("WORTH: of twelve GUESTS");
        StringBuilder text = new StringBuilder("reign r 0 1;");
        for (int k = 0; k < 12; k++) {
            text.append("guest r 1 1 0 worth 1;");
        }
        worth(checks.told(text.toString()), 11, 1000000000000L - 282429536481L, 1000000000000L);
        worth(checks.told(text.toString().replace("worth 1", "worth 9")), 0, 999999999999L, 1000000000000L);
        worth(checks.told(text.toString().replace("worth 1", "worth 5")), 0, 4095, 4096);
    }

    private static void worthInNone() {
        checks.sentence("26. NONE: it is in none, no such ones");
        GuestStars stars = checks.told("rock 0 0;rock 0 0;rock 0 0;");
        stars.doubt(0, true);
        stars.known(2);
        checks.row("above", new long[] {-1, 9, -1}, guest -> stars.worth(guest, 0));
        checks.row("below", new long[] {-1, 10, -1}, guest -> stars.worth(guest, 1));
        checks.refused("guest", 3, -1, guest -> stars.worth(guest, 0));
        checks.refused("what", 2, -1, what -> stars.worth(1, what));
        checks.due("of none", new GuestStars().worth(0, 0), -1);
    }

    private static final String SAID = "limit 6;price 99;gate a 10 10;gate b 50 10;gate c 100 10;rock 100 100 near a 1 north;"
        + "rock 100 100 near b 1 north;rock 100 100 near b 2 north;rock 100 100 near c 1 north;"
        + cloud(10, 11, 100) + cloud(16, 11, 100) + cloud(50, 11, 100) + cloud(100, 17, 100) + cloud(100, 18, 100);

    private static void saidOfEach() {
        checks.sentence("SAID of a CLOUD: 0 no GUEST can, 1 in no PAIR, 2 others could be, 3 its GUEST alone, 4 so, and with no other CLOUD");
        GuestStars stars = checks.told(SAID);
        // Guest 0 can with clouds 0 and 1, guests 1 and 2 with cloud 2, guest 3 with cloud 3 at just the limit, none with cloud 4.
        checks.row("said", new long[] {3, 1, 2, 4, 0}, stars::said);
        checks.due("no guests", checks.told(cloud(0, 0, 100)).said(0), 0);
        GuestStars twelve = checks.told("rock 100 100;" + "rock900 900;".repeat(11) + cloud(0, 0, 100) + cloud(0, 0, 100));
        checks.row("one of twelve guests", new long[] {3, 1}, twelve::said);
    }

    private static void saidOfThese() {
        checks.sentence("SAID: (of these)");
        GuestStars stars = checks.told(SAID);
        stars.doubt(2, true);
        checks.due("the other is doubted", stars.said(2), 4);
        stars.doubt(1, true);
        checks.due("both are doubted", stars.said(2), 0);
        stars.doubt(1, false);
        stars.known(1);
        checks.row("known by one", new long[] {3, 1, 0, 0, 0}, stars::said);
        stars.known(0);
        checks.row("known by none", new long[] {0, 0, 0, 0, 0}, stars::said);
    }

    private static void noSuchSaid() {
        checks.sentence("27. NONE: no such CLOUD");
        checks.refused("said", 5, -1, checks.told(SAID)::said);
        checks.refused("said of none", 0, -1, checks.told("rock 0 0;")::said);
    }

    private static void eventsHowMany() {
        checks.sentence("30. EVENTS: how many");
        checks.due("of none", new GuestStars().events(), 0);
        GuestStars stars = checks.told("reign r 0 1;guest r 1 1 0;rock 0 0;guest r 1 1 1;rock 0 0;guest r 1 5 0;");
        checks.due("events()", stars.events(), 4);
        stars.doubt(0, true);
        checks.due("one of two doubted", stars.events(), 4);
        stars.doubt(2, true);
        checks.due("both doubted", stars.events(), 3);
        stars.known(2);
        checks.due("known by 2", stars.events(), 1);
        stars.known(0);
        checks.due("known by none", stars.events(), 0);
    }

    private static void many(GuestStars stars, int sort, int a, int b, long[] due) {
        checks.due("above of many(" + sort + ", " + a + ", " + b + ")", stars.many(sort, a, b, 0), due[0]);
        checks.due("below of many(" + sort + ", " + a + ", " + b + ")", stars.many(sort, a, b, 1), due[1]);
    }

    private static void manyEvents() {
        checks.sentence("MANY: how many EVENTS have such a GUEST (no ROCK) in a YEAR a .. b with a SHARE above 0");
        GuestStars stars = checks.told("reign r 100 60;guest r 1 1 1;guest r 1 1 1;guest r 11 1 1;guest r 21 1 1;rock 105 105;guest r 12 1 1;"
            + "watch 100 110 5;watch 120 120 5;");
        many(stars, -1, 100, 100, new long[] {2, 1});
        many(stars, -1, 100, 109, new long[] {2, 1});
        many(stars, -1, 100, 110, new long[] {4, 1});
        many(stars, -1, 101, 109, new long[] {0, 1});
        many(stars, -1, 101, 110, new long[] {2, 1});
        // Year 111 has a guest, but no share.
        many(stars, -1, 110, 111, new long[] {4, 1});
        many(stars, -1, 111, 120, new long[] {20, 1});
        many(stars, -1, 120, 120, new long[] {2, 1});
        stars.doubt(0, true);
        many(stars, -1, 100, 100, new long[] {2, 1});
        stars.doubt(1, true);
        many(stars, -1, 100, 100, new long[] {0, 1});
        stars.known(3);
        many(stars, -1, 100, 120, new long[] {7, 2});
        stars.known(2);
        many(stars, -1, 100, 120, new long[] {0, 1});
    }

    private static void manyShares() {
        checks.sentence("MANY: times 10 times so many YEARS, by the sum of SHARES, in least terms");
        GuestStars stars = checks.told("reign r 0 60;guest r 1 1 1;watch 0 0 3;watch 0 1999 1;");
        many(stars, -1, 0, 0, new long[] {10, 3});
        many(stars, -1, 0, 1, new long[] {5, 1});
        many(stars, -1, 0, 1999, new long[] {10000, 1001});
        many(stars, -1, 1, 1999, new long[] {0, 1});
        many(checks.told("reign r 0 60;guest r 2 1 1;watch 1 1 1;"), -1, 0, 1, new long[] {20, 1});
        GuestStars full = checks.told("reign r 1900 60;guest r 60 1 1;guest r 1 1 1;watch 0 1999 10;");
        many(full, -1, 0, 1999, new long[] {2, 1});
        many(full, -1, 1959, 1999, new long[] {1, 1});
        many(full, -1, 1960, 1999, new long[] {0, 1});
        many(full, -1, 1901, 1958, new long[] {0, 1});
    }

    private static void manyNoughtByNought() {
        checks.sentence("MANY: (0 by 0, if that is 0)");
        GuestStars stars = checks.told("reign r 0 60;guest r 1 1 1;watch 5 6 3;");
        many(stars, -1, 0, 4, new long[] {0, 0});
        many(stars, -1, 7, 1999, new long[] {0, 0});
        many(stars, -1, 0, 5, new long[] {0, 1});
        many(new GuestStars(), -1, 0, 1999, new long[] {0, 0});
    }

    private static void manyOfSorts() {
        checks.sentence("MANY of a SORT (NONE: of all)");
        // The first event has guests of sorts 0 and 1; the second one of no sort; the third one of sort 1.
        GuestStars stars = checks.told("reign r 0 60;guest r 1 1 1 bright 1;guest r 1 1 1 bright 2;guest r 1 5 1;guest r 1 9 1 bright 2;"
            + "rock 0 0 bright 1;sort a 1 bright=1;sort b 1 bright;sort c 1 bright=2;watch 0 0 10;");
        many(stars, -1, 0, 0, new long[] {3, 1});
        many(stars, 0, 0, 0, new long[] {1, 1});
        many(stars, 1, 0, 0, new long[] {2, 1});
        many(stars, 2, 0, 0, new long[] {0, 1});
        stars.doubt(1, true);
        many(stars, 1, 0, 0, new long[] {1, 1});
    }

    private static void noSuchMany() {
        checks.sentence("32. NONE: no such SORT, YEARS, what");
        GuestStars stars = checks.told("reign r 0 60;guest r 1 1 1;sort a 1 1;sort b 1 1;watch 0 1999 10;");
        for (int sort : new int[] {-2, 2, 3, Integer.MIN_VALUE, Integer.MAX_VALUE}) {
            checks.due("sort " + sort, stars.many(sort, 0, 1999, 0), -1);
        }
        checks.due("sort 0 of none", new GuestStars().many(0, 0, 1999, 0), -1);
        checks.refused("the first year", 2000, -1, a -> stars.many(-1, a, 1999, 0));
        checks.refused("the last year", 2000, -1, b -> stars.many(-1, 0, b, 0));
        checks.refused("both", 2000, -1, a -> stars.many(-1, a, a, 1));
        checks.due("the last ahead of the first", stars.many(-1, 5, 4, 0), -1);
        checks.refused("what", 2, -1, what -> stars.many(-1, 0, 1999, what));
        many(stars, 1, 0, 0, new long[] {0, 1});
        many(stars, -1, 1999, 1999, new long[] {0, 1});
    }

    private static void doubts() {
        checks.sentence("37. A GUEST is DOUBTED, or not: true");
        GuestStars stars = checks.told("rock 100 100;rock 100 100;" + cloud(0, 0, 100));
        checks.due("toll in all", stars.pairs(1), 20);
        checks.due("doubted", stars.doubt(0, true), true);
        checks.due("toll in all", stars.pairs(1), 20);
        checks.due("pair", stars.pair(1), 0);
        checks.due("event", stars.event(0), -1);
        checks.due("not any more", stars.doubt(0, false), true);
        checks.due("pair", stars.pair(0), 0);
        checks.due("event", stars.event(0), 0);
        stars.known(1);
        checks.due("one not known", stars.doubt(1, true), true);
        checks.due("doubted()", stars.doubted(), 2);
    }

    private static void noSuchDoubt() {
        checks.sentence("37. false: no such GUEST, it is so");
        GuestStars stars = checks.told("rock 100 100;rock 100 100;");
        checks.due("it isn't", stars.doubt(0, false), false);
        checks.due("doubted", stars.doubt(0, true), true);
        checks.due("it is", stars.doubt(0, true), false);
        checks.refused("doubt", 2, 0, guest -> stars.doubt(guest, true) ? 1 : 0);
        checks.refused("no doubt", 2, 0, guest -> stars.doubt(guest, false) ? 1 : 0);
        checks.due("32 isn't 0", stars.doubt(32, false), false);
        checks.due("33 isn't 1", stars.doubt(33, true), false);
        checks.due("doubted()", stars.doubted(), 1);
        checks.due("of none", new GuestStars().doubt(0, true), false);
    }

    private static void doubtedBits() {
        checks.sentence("38. GUESTS that are DOUBTED (bits)");
        checks.due("of none", new GuestStars().doubted(), 0);
        GuestStars stars = checks.told("rock0 0;".repeat(12));
        for (int g = 0; g < 12; g++) {
            stars.doubt(g, true);
            checks.due("doubted()", stars.doubted(), (2 << g) - 1);
        }
        stars.doubt(0, false);
        checks.due("doubted()", stars.doubted(), 4094);
        stars.known(0);
        checks.due("known or not", stars.doubted(), 4094);
    }

    private static void luckOfDraws() {
        checks.sentence("LUCK: in each draw each GUEST that has a GATE gets a place by two numbers, instead of all its READINGS");
        // By seed 1 the places are (38, 58), (33, 55), (91, 47), (90, 39), (12, 6), (109, 47).
        String text = "limit 0;gate g 0 0;rock 100 100 near g 1 east;" + cloud(1, 0, 100);
        GuestStars stars = checks.told(text + cloud(33, 55, 100));
        checks.due("there is one pair", stars.pairs(0), 1);
        checks.due("the first draw isn't near", stars.luck(1, 1), 0);
        checks.due("the second one is", stars.luck(1, 2), 1);
        checks.due("nor the third", stars.luck(1, 3), 1);
        GuestStars wide = checks.told("limit 5;" + text.substring(8) + cloud(38, 58, 100));
        checks.due("5 apart at most", wide.luck(1, 2), 2);
        GuestStars close = checks.told("limit 4;" + text.substring(8) + cloud(38, 58, 100));
        checks.due("4 apart at most", close.luck(1, 2), 1);
        // What its years cost is added to the place's toll: 9 years outside nothing, 10 years 1.
        checks.due("9 years outside", checks.told(text + cloud(38, 58, 109)).luck(1, 1), 1);
        checks.due("10 years outside", checks.told(text + cloud(38, 58, 110)).luck(1, 1), 0);
        checks.due("10 years outside, ahead", checks.told(text + cloud(38, 58, 90)).luck(1, 1), 0);
        checks.due("9 years outside, ahead", checks.told(text + cloud(38, 58, 91)).luck(1, 1), 1);
        // A second guest takes two numbers too: (91, 47) is the first one's place in the second draw.
        GuestStars two = checks.told("limit 0;gate g 0 0;rock 100 100 near g 1 east;rock 100 100 near g 1 east;" + cloud(1, 0, 100)
            + cloud(91, 47, 100));
        checks.due("one pair", two.pairs(0), 1);
        checks.due("two numbers for each guest", two.luck(1, 2), 1);
        checks.due("not by the first draw", two.luck(1, 1), 0);
    }

    private static void luckOfGates() {
        checks.sentence("LUCK: each GUEST that has a GATE (KNOWN and not DOUBTED or not)");
        // Guest 0 has no gate and takes no numbers; guest 1 takes the first two, whatever is thought of it; guest 2 the next.
        GuestStars stars = checks.told("limit 0;gate g 0 0;rock 100 100;rock 100 100 near g 5 east;rock 100 100 near g 1 east;"
            + cloud(1, 0, 100) + cloud(33, 55, 100));
        checks.due("pairs", stars.pairs(0), 1);
        checks.due("the first draw", stars.luck(1, 1), 1);
        stars.doubt(1, true);
        checks.due("doubted", stars.luck(1, 1), 1);
        stars.doubt(0, true);
        checks.due("doubted, without a gate", stars.luck(1, 1), 1);
        GuestStars last = checks.told("limit 0;gate g 0 0;rock 100 100 near g 1 east;rock 100 100 near g 5 east;" + cloud(1, 0, 100)
            + cloud(91, 47, 100));
        last.known(1);
        checks.due("not known", last.luck(1, 2), 1);
        checks.due("a doubted one has no pair", unpaired(), 0);
        // Without a gate it can as ever: toll 20, and what its years cost.
        GuestStars gateless = checks.told("limit 20;rock 100 100;" + cloud(1, 0, 109));
        checks.due("without a gate", gateless.luck(1, 20), 20);
    }

    /** Guest 0 is doubted and drawn to a cloud; guest 1 has the only pair and isn't drawn to any. */
    private static int unpaired() {
        GuestStars stars = checks.told("limit 0;gate g 0 0;rock 100 100 near g 5 east;rock 100 100 near g 1 east;" + cloud(1, 0, 100)
            + cloud(38, 58, 100));
        stars.doubt(0, true);
        checks.due("pairs", stars.pairs(0), 1);
        return stars.luck(1, 1);
    }

    private static void luckOfPairs() {
        checks.sentence("LUCK: how many draws have as many PAIRS at least as there are");
        GuestStars none = checks.told("limit 0;gate g 0 0;rock 100 100 near g 1 east;" + cloud(50, 50, 100));
        checks.due("no pairs", none.pairs(0), 0);
        checks.due("always", none.luck(1, 20), 20);
        checks.due("of a new object", new GuestStars().luck(0, 20), 20);
        // Two guests drawn to (38, 58) and (33, 55): both near the one cloud makes one pair, not two.
        GuestStars two = checks.told("limit 5;price 0;gate g 0 0;gate h 60 0;rock 100 100 near g 1 east;rock 100 100 near h 1 east;"
            + cloud(1, 0, 100) + cloud(61, 0, 100) + cloud(36, 57, 100));
        checks.due("two pairs", two.pairs(0), 2);
        checks.due("one drawn", two.luck(1, 1), 0);
        GuestStars more = checks.told("limit 5;price 0;gate g 0 0;rock 100 100 near g 1 east;rock 900 900 near g 1 east;"
            + cloud(1, 0, 100) + cloud(38, 58, 100));
        checks.due("one pair", more.pairs(0), 1);
        checks.due("one drawn", more.luck(1, 1), 1);
        // Guest 0 can with both clouds, guest 1 with the first alone.
        GuestStars chain = checks.told("limit 5;price 0;gate g 0 0;gate h 60 0;rock 100 100 near g 1 east;rock 100 100 near h 1 east;"
            + cloud(1, 0, 100) + cloud(61, 0, 100) + cloud(35, 57, 100) + cloud(41, 58, 100));
        checks.due("two pairs", chain.pairs(0), 2);
        checks.due("two drawn", chain.luck(1, 1), 1);
    }

    private static void noSuchLuck() {
        checks.sentence("40. LUCK of 1 .. 20 draws by a seed; NONE: no such ones");
        GuestStars stars = checks.told("rock 100 100;" + cloud(0, 0, 100));
        checks.due("one", stars.luck(0, 1), 1);
        checks.due("twenty", stars.luck(0, 20), 20);
        checks.due("the last seed", stars.luck(Integer.MAX_VALUE, 20), 20);
        checks.refusedOutside("many", 1, 20, -1, many -> stars.luck(0, many));
        checks.refusedOutside("seed", 0, Integer.MAX_VALUE, -1, seed -> stars.luck(seed, 1));
    }

    private static void counts() {
        checks.sentence("41. 0 REIGNS .. 12 by how many GUESTS it is KNOWN");
        GuestStars stars = checks.told("turn 11;price 12;limit 13;blur 14;reign a 0 1;gate a 0 0;gate b 0 0;rock 0 0;rock 0 0;rock 0 0;"
            + "cloud 0 0 plate 1 1 plate 2 2;".repeat(4) + "sort a 1 1+1;sort b 1 1;sort c 1 1;sort d 1 1;sort e 1 1;"
            + "watch 0 0 1;".repeat(6) + "book a;book b;book c;book d;book e;book f;book g;");
        checks.row("count", new long[] {1, 2, 3, 4, 5, 6, 7, 11, 12, 13, 14, 7, 3}, stars::count);
        stars.known(2);
        checks.due("count(12)", stars.count(12), 2);
        checks.due("count(2)", stars.count(2), 3);
    }

    private static void anotherCount() {
        checks.sentence("41. NONE for another what");
        checks.refused("count", 13, -1, checks.told("rock 0 0;")::count);
        checks.refused("count of a new object", 13, -1, new GuestStars()::count);
    }
}
