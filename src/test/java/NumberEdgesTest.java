import java.math.BigInteger;

/** The edges of what a text may tell, sentence by sentence: how great each number, how many of each kind. */
public final class NumberEdgesTest {
    private static final Checks checks = new Checks();
    private static final String PLATES = "plate 1000 10 plate 1010 20";

    public static void main(String[] args) {
        reigns();
        gates();
        books();
        guests();
        rocks();
        nears();
        details();
        withoutDetails();
        whateverOrder();
        clouds();
        firstPlates();
        secondPlates();
        slows();
        ticks();
        cloudsInWhateverOrder();
        sorts();
        numbersOfRules();
        watches();
        settings();
        withoutSettings();
        numbered();
        namesOfTheirKind();
        checks.finish("NumberEdgesTest");
    }

    /** Texts with a number at '#': its least and greatest are fine and read, beyond them is a fault 2 at it. */
    private static void range(String pattern, int least, int greatest, Checks.Question question) {
        int place = pattern.indexOf('#');
        String ahead = pattern.substring(0, place);
        String behind = pattern.substring(place + 1);
        for (int number : new int[] {least, greatest}) {
            for (String noughts : new String[] {"", "000", "00000000000000000000"}) {
                GuestStars stars = checks.told(ahead + noughts + number + behind);
                checks.due(noughts + number + " of " + pattern, question == null ? number : question.of(stars), number);
            }
        }
        if (least > 0) {
            checks.fault(2, ahead + "|" + (least - 1) + behind);
        }
        checks.fault(2, ahead + "|" + (greatest + 1) + behind);
        checks.fault(2, ahead + "|" + (10L * greatest + 10) + behind);
        // What wraps round into the range is beyond it too.
        checks.fault(2, ahead + "|" + ((1L << 32) + least) + behind);
        checks.fault(2, ahead + "|" + BigInteger.TWO.pow(64).add(BigInteger.valueOf(least)) + behind);
        checks.fault(2, ahead + "|9999999999999999999999999999999999999999" + behind);
        checks.fault(1, ahead + "|-" + greatest + behind);
    }

    /** As many lines as may be ('#' is a letter of their names) are fine, one more is a fault 2 at its word. */
    private static void most(int many, String line) {
        StringBuilder text = new StringBuilder();
        for (int k = 0; k < many; k++) {
            text.append(line.replace('#', (char) ('a' + k)));
        }
        checks.fine(text.toString());
        checks.fault(2, text + "|" + line.replace('#', 'z'));
        checks.fault(2, text + " \n|" + line.substring(0, line.indexOf(' ')) + " ? ?");
        checks.fault(2, text + "|" + line.substring(0, line.indexOf(' ')));
    }

    private static void reigns() {
        checks.sentence("REIGNS, at most 8");
        most(8, "reign # 0 1;");
        checks.sentence("REIGNS: the first YEAR 0 .. 1900");
        range("reign a # 1;guest a 1 1 0;", 0, 1900, stars -> stars.look(0, 0));
        checks.sentence("REIGNS: how many 1 .. 60");
        range("reign a 0 #;", 1, 60, null);
        checks.fine("reign a 0 60;guest a 60 1 0;");
        checks.fault(2, "reign a 0 60;guest a |61 1 0;");
        checks.fault(2, "reign a 0 1;guest a |2 1 0;");
    }

    private static void gates() {
        checks.sentence("GATES, at most 10");
        most(10, "gate # 0 0;");
        checks.sentence("GATES: x 0 .. 119");
        range("gate g # 30;rock 0 0 near g 1 north;", 0, 119, stars -> stars.place(0, 0, 0));
        checks.sentence("GATES: y 0 .. 59");
        range("gate g 30 #;rock 0 0 near g 1 east;", 0, 59, stars -> stars.place(0, 0, 1));
    }

    private static void books() {
        checks.sentence("BOOKS, at most 8, each perhaps copied from one told ahead");
        most(8, "book #;");
        checks.fine("book a;book b;");
        checks.fine("book a;book b from a;book c from a;book d from c;");
        checks.fault(4, "book a from |b;book b;");
        checks.fault(4, "book a from |a;");
        checks.fault(2, "book a;book b from a;book c from b;book d;book e;book f;book g;book h from a;|book i from a;");
    }

    private static void guests() {
        checks.sentence("GUESTS, at most 12");
        most(12, "rock 0 0;");
        StringBuilder text = new StringBuilder("reign r 0 1;");
        for (int k = 0; k < 12; k++) {
            text.append(k % 3 == 0 ? "rock 0 0;" : "guest r 1 1 0;");
        }
        checks.fine(text.toString());
        checks.fault(2, text + "|guest r 1 1 0;");
        checks.fault(2, text + "|rock 0 0;");
        checks.sentence("GUESTS: its year (1 .. as many as it has)");
        range("reign a 0 3;reign b 0 7;reign c 0 5;guest b # 1 0;", 1, 7, stars -> stars.look(0, 0) + 1);
        range("reign a 0 3;reign b 0 1;guest b # 1 0;", 1, 1, stars -> stars.look(0, 0) + 1);
        range("reign a 0 60;guest a # 1 0;", 1, 60, stars -> stars.look(0, 0) + 1);
        checks.sentence("GUESTS: MONTH 1 .. 12");
        range("reign a 0 3;guest a 1 # 0;", 1, 12, stars -> stars.look(0, 1));
        checks.sentence("GUESTS: ROUND 0 .. 59");
        range("reign a 0 3;guest a 1 1 #;", 0, 59, stars -> stars.look(0, 2));
    }

    private static void rocks() {
        checks.sentence("a ROCK: of some YEAR a .. b (0 .. 1999)");
        range("rock # 1999;", 0, 1999, stars -> stars.look(0, 0));
        range("rock 0 #;", 0, 1999, stars -> stars.look(0, 12));
        range("rock 700 #;", 700, 1999, stars -> stars.look(0, 12));
        checks.sentence("a ROCK: without a REIGN, MONTH and ROUND 0, its YEAR is a");
        GuestStars stars = checks.told("reign r 7 9;rock 3 8;");
        checks.row("look", new long[] {3, 0, 0, -1, 0, 0, 0, 0, 0, 0, 9, -1, 8}, what -> stars.look(0, what));
    }

    private static void nears() {
        checks.sentence("near: INCHES 1 .. 20");
        range("gate g 0 0;rock 0 0 near g # north;", 1, 20, stars -> stars.look(0, 4));
        checks.sentence("near: its SIDES (two: one of north, south, one of east, west)");
        String[] sides = {"north", "south", "east", "west", "north east", "north west", "south east", "south west",
            "east north", "west north", "east south", "west south"};
        int[] bits = {1, 2, 4, 8, 5, 9, 6, 10, 5, 9, 6, 10};
        for (int k = 0; k < sides.length; k++) {
            GuestStars stars = checks.told("gate g 0 0;rock 0 0 near g 1 " + sides[k] + ";");
            checks.due("sides of " + sides[k], stars.look(0, 5), bits[k]);
        }
        checks.fault(1, "gate g 0 0;rock 0 0 near g 1|;");
        checks.fault(1, "gate g 0 0;rock 0 0 near g 1 |tail;");
        checks.fault(1, "gate g 0 0;rock 0 0 near g 1 north east |west;");
        checks.fault(1, "gate g 0 0;rock 0 0 near g 1 north east |north;");
        checks.fault(1, "gate g 0 0;rock 0 0 near g 1 north tail |east;");
    }

    private static void details() {
        checks.sentence("lasts DAYS 1 .. 999");
        range("rock 0 0 lasts #;", 1, 999, stars -> stars.look(0, 6));
        checks.sentence("bright 0 .. 20");
        range("rock 0 0 bright #;", 0, 20, stars -> stars.look(0, 7));
        checks.sentence("moves 0 .. 99");
        range("rock 0 0 moves #;", 0, 99, stars -> stars.look(0, 8));
        checks.sentence("worth 1 .. 9 of 10");
        range("rock 0 0 worth #;", 1, 9, stars -> stars.look(0, 10));
    }

    private static void withoutDetails() {
        checks.sentence("tail (0 without; INCHES too), worth (9 without)");
        GuestStars stars = checks.told("reign r 5 5;gate g 1 1;book b;rock 0 0 in b near g 9 west lasts 9 bright 9 moves 9 tail worth 1;"
            + "guest r 2 3 4;rock 8 9;");
        checks.row("a guest without: look", new long[] {6, 3, 4, -1, 0, 0, 0, 0, 0, 0, 9, -1, 6}, what -> stars.look(1, what));
        checks.row("a rock without: look", new long[] {8, 0, 0, -1, 0, 0, 0, 0, 0, 0, 9, -1, 9}, what -> stars.look(2, what));
        checks.due("tail", stars.look(0, 9), 1);
    }

    private static void whateverOrder() {
        checks.sentence("each once at most, in whatever order");
        String[] parts = {" in b", " near g 5 south east", " lasts 6", " bright 7", " moves 8", " tail", " worth 3"};
        for (int turn = 0; turn < 7; turn++) {
            StringBuilder forth = new StringBuilder();
            StringBuilder back = new StringBuilder();
            for (int k = 0; k < 7; k++) {
                forth.append(parts[(k + turn) % 7]);
                back.append(parts[(14 - k - turn) % 7]);
            }
            for (String details : new String[] {forth.toString(), back.toString()}) {
                String text = "reign r 5 5;gate a 0 0;gate g 1 1;book a;book b;guest r 2 3 4" + details;
                GuestStars stars = checks.told(text + ";");
                checks.row("look of" + details, new long[] {6, 3, 4, 1, 5, 6, 6, 7, 8, 1, 3, 1, 6}, what -> stars.look(0, what));
                for (String part : parts) {
                    checks.fault(3, text + " |" + part.substring(1) + ";");
                }
            }
        }
    }

    private static void clouds() {
        checks.sentence("CLOUDS, at most 10");
        most(10, "cloud 0 0 plate 0 1 plate 1 2;");
        checks.sentence("CLOUDS: x, y");
        range("cloud # 0 " + PLATES + ";", 0, 119, stars -> stars.born(0, 4));
        range("cloud 0 # " + PLATES + ";", 0, 59, stars -> stars.born(0, 5));
        checks.sentence("CLOUDS: two PLATES");
        checks.fault(1, "cloud 0 0|;");
        checks.fault(1, "cloud 0 0 plate 1 1|;");
        checks.fault(1, "cloud 0 0 plate 1 1 |slow 5;");
        checks.fault(1, "cloud 0 0 plate 1 1 plate 2 2 |plate 3 3;");
    }

    private static void firstPlates() {
        checks.sentence("PLATES: a YEAR 0 .. 2999");
        for (int year : new int[] {0, 1, 2998}) {
            GuestStars stars = checks.told("cloud 0 0 plate " + year + " 1 plate 2999 2;");
            checks.due("the first plate's year " + year, stars.born(0, 1) + stars.born(0, 0), year);
        }
        checks.fault(2, "cloud 0 0 plate 2999 1 plate |2999 2;");
        checks.fault(2, "cloud 0 0 plate 2999 1 plate |3000 2;");
        checks.fault(2, "cloud 0 0 plate |3000 1 plate 3001 2;");
        checks.fault(2, "cloud 0 0 plate |4294967296 1 plate 2999 2;");
        checks.sentence("PLATES: a SIZE 1 .. 9999");
        for (int size : new int[] {1, 9998}) {
            GuestStars stars = checks.told("cloud 0 0 plate 0 " + size + " plate 1 9999;");
            checks.due("the age by size " + size, stars.born(0, 0), size == 1 ? 0 : 9998);
        }
        checks.fault(2, "cloud 0 0 plate 0 |0 plate 1 9999;");
        checks.fault(2, "cloud 0 0 plate 0 9999 plate 1 |9999;");
        checks.fault(2, "cloud 0 0 plate 0 9999 plate 1 |10000;");
        checks.fault(2, "cloud 0 0 plate 0 |10000 plate 1 10001;");
        checks.fault(2, "cloud 0 0 plate 0 |4294967297 plate 1 9999;");
    }

    private static void secondPlates() {
        checks.sentence("PLATES: the second ones above the first: a YEAR");
        range("cloud 0 0 plate 500 1 plate # 2 tick 1 9999;", 501, 2999, stars -> stars.born(0, 3));
        checks.fault(2, "cloud 0 0 plate 500 1 plate |499 2;");
        checks.fault(2, "cloud 0 0 plate 500 1 plate |500 2;");
        checks.fault(2, "cloud 0 0 plate 500 1 plate |0 2;");
        checks.sentence("PLATES: the second ones above the first: a SIZE");
        // The age by sizes 500 and 9999, 500 years apart, is 26; by 500 and 501 it is beyond 9999.
        range("cloud 0 0 plate 0 500 plate 500 #;", 501, 9999,
            stars -> stars.born(0, 0) == 26 ? 9999 : stars.born(0, 0) == 9999 ? 501 : -1);
        checks.fault(2, "cloud 0 0 plate 0 500 plate 500 |499;");
        checks.fault(2, "cloud 0 0 plate 0 500 plate 500 |500;");
        checks.fault(2, "cloud 0 0 plate 500 500 plate |499 499;");
    }

    private static void slows() {
        checks.sentence("slow 1 .. 10 (10 without) of 10");
        range("cloud 0 0 plate 1000 10 plate 1010 11 slow #;", 1, 10, stars -> (1000 - stars.born(0, 2)) / 10);
        GuestStars stars = checks.told("cloud 0 0 plate 1000 10 plate 1010 11 slow 3;cloud 0 0 plate 1000 10 plate 1010 11;");
        checks.due("with", stars.born(0, 2), 970);
        checks.due("without", stars.born(1, 2), 900);
    }

    private static void ticks() {
        checks.sentence("tick: PERIOD 1 .. 9999");
        range("cloud 0 0 plate 2 1 plate 2500 2 tick # 50;", 1, 9999, stars -> 2500 - stars.born(0, 3));
        checks.sentence("tick: SLOWING 1 .. 9999");
        range("cloud 0 0 plate 2 1 plate 2500 2 tick 9999 #;", 1, 9999,
            stars -> stars.born(0, 3) == 2500 - 9999 ? 1 : stars.born(0, 3) == 2450 ? 9999 : -1);
        checks.fault(1, "cloud 0 0 " + PLATES + " tick 1|;");
        checks.fault(1, "cloud 0 0 " + PLATES + " tick|;");
    }

    private static void cloudsInWhateverOrder() {
        checks.sentence("slow, tick (each once)");
        GuestStars stars = checks.told("cloud 0 0 " + PLATES + " tick 2 5 slow 5;cloud 0 0 " + PLATES + " slow 5 tick 2 5;"
            + "cloud 0 0 " + PLATES + " tick 2 5;cloud 0 0 " + PLATES + " slow 5;cloud 0 0 " + PLATES + ";");
        checks.row("by ticks", new long[] {990, 990, 990, Integer.MIN_VALUE, Integer.MIN_VALUE}, cloud -> stars.born(cloud, 3));
        checks.row("to", new long[] {995, 995, 990, 995, 990}, cloud -> stars.born(cloud, 2));
        checks.fault(3, "cloud 0 0 " + PLATES + " slow 5 |slow 5;");
        checks.fault(3, "cloud 0 0 " + PLATES + " tick 2 5 |tick 2 5;");
        checks.fault(3, "cloud 0 0 " + PLATES + " slow 5 tick 2 5 |slow 5;");
        checks.fault(3, "cloud 0 0 " + PLATES + " tick 2 5 slow 5 |tick 2 5;");
    }

    private static void sorts() {
        checks.sentence("SORTS, at most 6");
        most(6, "sort # 1 1;");
        checks.sentence("SORTS: a WEIGHT 1 .. 99");
        range("rock 0 0;sort a # 1;sort b 1 1;", 1, 99, stars -> stars.odds(0, 0, 1) - 1);
    }

    private static void numbersOfRules() {
        checks.sentence("N of E 0 .. 9999");
        range("rock 0 0;sort a 1 #;sort b 1 1;", 0, 9999, stars -> stars.odds(0, 0, 0));
        range("rock 0 0;sort a 1 1*(0+#);sort b 1 1;", 0, 9999, stars -> stars.odds(0, 0, 0));
    }

    private static void watches() {
        checks.sentence("WATCHES, at most 6");
        most(6, "watch 0 0 1;");
        checks.sentence("WATCHES: YEARS a .. b (0 .. 1999)");
        range("watch # 1999 1;", 0, 1999, stars -> stars.share(0) == 1 ? 0 : stars.share(1998) == 0 && stars.share(1999) == 1 ? 1999 : -1);
        range("watch 0 # 1;", 0, 1999, stars -> stars.share(1999) == 1 ? 1999 : stars.share(0) == 1 && stars.share(1) == 0 ? 0 : -1);
        range("watch 700 # 1;", 700, 1999, stars -> stars.share(1999) == 1 ? 1999 : stars.share(701) == 0 ? 700 : -1);
        checks.sentence("WATCHES: a SHARE 1 .. 10");
        range("watch 5 5 #;", 1, 10, stars -> stars.share(5));
    }

    private static void settings() {
        checks.sentence("TURN 0 .. 59");
        range("turn #;", 0, 59, stars -> stars.count(7));
        checks.sentence("PRICE 0 .. 99");
        range("price #;", 0, 99, stars -> stars.count(8));
        checks.sentence("LIMIT 0 .. 999");
        range("limit #;", 0, 999, stars -> stars.count(9));
        checks.sentence("BLUR 0 .. 99");
        range("blur #;", 0, 99, stars -> stars.count(10));
    }

    private static void withoutSettings() {
        checks.sentence("TURN (0 without), PRICE (5), LIMIT (20), BLUR (0)");
        String[] lines = {"turn 1;", "price 1;", "limit 1;", "blur 1;"};
        long[] without = {0, 5, 20, 0};
        for (int left = 0; left < 4; left++) {
            StringBuilder text = new StringBuilder();
            for (int k = 0; k < 4; k++) {
                text.append(k == left ? "" : lines[k]);
            }
            GuestStars stars = checks.told(text.toString());
            for (int k = 0; k < 4; k++) {
                checks.due("count(" + (7 + k) + ") of " + text, stars.count(7 + k), k == left ? without[k] : 1);
            }
        }
    }

    private static void numbered() {
        checks.sentence("All numbered as they come");
        GuestStars stars = checks.told("cloud 1 0 " + PLATES + ";rock 1 1;cloud 2 0 " + PLATES + ";reign r 2 1;guest r 1 1 0;gate a 5 5;"
            + "rock 3 3 near a 1 north;gate b 6 6;rock 4 4 near b 1 north;sort a 1 0;cloud 3 0 " + PLATES + ";sort b 1 1;");
        checks.row("the guests' years", new long[] {1, 2, 3, 4}, guest -> stars.look(guest, 0));
        checks.row("the guests' gates", new long[] {-1, -1, 0, 1}, guest -> stars.look(guest, 3));
        checks.row("the clouds' x", new long[] {1, 2, 3}, cloud -> stars.born(cloud, 4));
        checks.due("the first guest's sort", stars.sort(0), 1);
    }

    private static void namesOfTheirKind() {
        checks.sentence("REIGNS, GATES, BOOKS, SORTS have names of their kind");
        checks.fine("reign a 0 1;gate a 0 0;book a;sort a 1 1;guest a 1 1 0 near a 1 north in a;");
        checks.fault(4, "gate a 0 0;book a;sort a 1 1;guest |a 1 1 0;");
        checks.fault(4, "reign a 0 1;book a;sort a 1 1;guest a 1 1 0 near |a 1 north;");
        checks.fault(4, "reign a 0 1;gate a 0 0;sort a 1 1;guest a 1 1 0 in |a;");
        checks.fault(4, "reign a 0 1;gate a 0 0;sort a 1 1;book b from |a;");
    }
}
