/** The edges that promises 1 to 5 name, sentence by sentence: a new object, the tape, texts, faults kept, names. */
public final class TapeEdgesTest {
    private static final Checks checks = new Checks();
    private static final int BLANKS = 0x20202020;
    private static final int LETTERS = 0x78787878;
    /** One more of any kind is too much for it. */
    static final String FULL = "reign a0 1;reign b0 1;reign c0 1;reign d0 1;reign e0 1;reign f0 1;reign g0 1;reign h0 1;"
        + "gate a0 0;gate b0 0;gate c0 0;gate d0 0;gate e0 0;gate f0 0;gate g0 0;gate h0 0;gate i0 0;gate j0 0;"
        + "book a;book b;book c;book d;book e;book f;book g;book h;"
        + "rock0 0;rock0 0;rock0 0;rock0 0;rock0 0;rock0 0;rock0 0;rock0 0;rock0 0;rock0 0;rock0 0;rock0 0;"
        + "cloud0 0plate0 1plate1 2;cloud0 0plate0 1plate1 2;cloud0 0plate0 1plate1 2;cloud0 0plate0 1plate1 2;"
        + "cloud0 0plate0 1plate1 2;cloud0 0plate0 1plate1 2;cloud0 0plate0 1plate1 2;cloud0 0plate0 1plate1 2;"
        + "cloud0 0plate0 1plate1 2;cloud0 0plate0 1plate1 2;"
        + "sort a1 1;sort b1 1;sort c1 1;sort d1 1;sort e1 1;sort f1 1;"
        + "watch0 0 1;watch0 0 1;watch0 0 1;watch0 0 1;watch0 0 1;watch0 0 1;turn1;price2;limit3;blur4;";

    public static void main(String[] args) {
        newText();
        newTape();
        fiveHundredAndTwelveCalls();
        highestFirst();
        behindTheTape();
        howManyItHas();
        moreThan800();
        firstBytes();
        emptyThen();
        emptyWithAFault();
        isTheText();
        noneDoubtedAllKnown();
        howManyLines();
        allStaysWithAFault();
        notSoMany();
        nBelow0();
        tapeStays();
        noFaultIsNone();
        latestText();
        notMinusTwo();
        placeWithout();
        anotherFaultWhat();
        namesOfEachKind();
        lettersOfNames();
        noneSuchName();
        checks.finish("TapeEdgesTest");
    }

    private static void newText() {
        checks.sentence("1. A TEXT without LINES");
        GuestStars stars = new GuestStars();
        checks.row("count", new long[] {0, 0, 0, 0, 0, 0, 0, 0, 5, 20, 0, 0, 0}, stars::count);
        checks.due("day(0)", stars.day(0), -2);
        checks.due("events()", stars.events(), 0);
        checks.due("pairs(0)", stars.pairs(0), 0);
        checks.due("doubted()", stars.doubted(), 0);
        checks.due("known(0)", stars.known(0), true);
        checks.due("known(1)", stars.known(1), false);
    }

    private static void newTape() {
        checks.sentence("1. an empty TAPE");
        checks.due("text(1)", new GuestStars().text(1), -2);
        checks.due("text(0)", new GuestStars().text(0), 0);
        checks.due("feed", new GuestStars().feed(0, 0, 0, 0, 0), 20);
    }

    private static void fiveHundredAndTwelveCalls() {
        checks.sentence("An object is used for at most 512 calls");
        GuestStars stars = new GuestStars();
        Checks.feed(stars, "limit 7;rock 1 2;   ");
        stars.text(20);
        for (int call = 3; call <= 511; call++) {
            stars.doubt(0, call % 2 == 1);
        }
        checks.due("the 512th call", stars.doubted(), 1);
        GuestStars texts = new GuestStars();
        for (int call = 1; call <= 510; call += 2) {
            texts.feed(0x7475726e, 0x20373b20, BLANKS, BLANKS, BLANKS);
            texts.text(20);
        }
        texts.feed(0x7475726e, 0x20383b20, BLANKS, BLANKS, BLANKS);
        checks.due("the 512th call, the 256th text", texts.text(20), 1);
    }

    private static void highestFirst() {
        checks.sentence("2. four of each number, the highest first");
        GuestStars stars = new GuestStars();
        // "limi" "t 98" "7;pr" "ice " "65; "
        stars.feed(0x6c696d69, 0x74203938, 0x373b7072, 0x69636520, 0x36353b20);
        checks.due("text(20)", stars.text(20), 2);
        checks.due("limit", stars.count(9), 987);
        checks.due("price", stars.count(8), 65);
        // A number below 0 has a highest byte of 128 or more, which is no token.
        stars.feed(BLANKS, BLANKS, BLANKS, BLANKS, 0x202020ff);
        checks.due("text(19) of blanks", stars.text(19), 0);
        stars.feed(BLANKS, BLANKS, BLANKS, BLANKS, 0x202020ff);
        checks.due("text(20) with a byte 255", stars.text(20), -1);
        checks.due("its place", stars.fault(1), 19);
        stars.feed(0x80202020, BLANKS, BLANKS, BLANKS, BLANKS);
        checks.due("text(20) with a byte 128", stars.text(20), -1);
        checks.due("its place", stars.fault(1), 0);
    }

    private static void behindTheTape() {
        checks.sentence("2. Twenty bytes come behind the TAPE");
        GuestStars stars = new GuestStars();
        // A word and a number go on from one feed to the next.
        stars.feed(BLANKS, BLANKS, BLANKS, BLANKS, 0x20206c69);
        stars.feed(0x6d697420, BLANKS, BLANKS, BLANKS, 0x20202031);
        stars.feed(0x32333b20, BLANKS, BLANKS, BLANKS, BLANKS);
        checks.due("text(60)", stars.text(60), 1);
        checks.due("limit", stars.count(9), 123);
    }

    private static void howManyItHas() {
        checks.sentence("2. how many it has");
        GuestStars stars = new GuestStars();
        for (int k = 1; k <= 40; k++) {
            checks.due("feed " + k, stars.feed(BLANKS, BLANKS, BLANKS, BLANKS, BLANKS), 20 * k);
        }
    }

    private static GuestStars fullTape() {
        GuestStars stars = new GuestStars();
        for (int k = 1; k <= 40; k++) {
            stars.feed(BLANKS, BLANKS, BLANKS, BLANKS, BLANKS);
        }
        return stars;
    }

    private static void moreThan800() {
        checks.sentence("2. NONE, and none come, if it would have more than 800");
        GuestStars stars = fullTape();
        checks.due("feed 41", stars.feed(LETTERS, LETTERS, LETTERS, LETTERS, LETTERS), -1);
        checks.due("feed 42", stars.feed(LETTERS, LETTERS, LETTERS, LETTERS, LETTERS), -1);
        checks.due("text(820)", stars.text(820), -2);
        checks.due("text(801)", stars.text(801), -2);
        checks.due("text(800), all blanks", stars.text(800), 0);
        checks.due("feed behind text", stars.feed(BLANKS, BLANKS, BLANKS, BLANKS, BLANKS), 20);
        // The last byte of a full tape is read.
        GuestStars last = new GuestStars();
        StringBuilder text = new StringBuilder(" ".repeat(793)).append("turn 7;");
        checks.due("text of 800", Checks.tell(last, text.toString()), 1);
        checks.due("turn", last.count(7), 7);
    }

    private static void firstBytes() {
        checks.sentence("3. The TAPE's first n bytes are the TEXT");
        GuestStars stars = new GuestStars();
        Checks.feed(stars, "turn 5;limit 9;nope!");
        checks.due("text(15)", stars.text(15), 2);
        Checks.feed(stars, "turn 6;limit 9;nope!");
        checks.due("text(7)", stars.text(7), 1);
        checks.due("turn", stars.count(7), 6);
        Checks.feed(stars, "turn 12;limit 9;    ");
        checks.due("text(6), that cuts a number", stars.text(6), -1);
        checks.due("place", stars.fault(1), 6);
        Checks.feed(stars, "turn 5;limit 9;nope!");
        checks.due("text(0)", stars.text(0), 0);
        checks.due("turn without", stars.count(7), 0);
    }

    private static void emptyThen() {
        checks.sentence("3. it is empty then");
        GuestStars stars = new GuestStars();
        Checks.feed(stars, "turn 5;turn 6;turn 7;turn 8;turn 9;     ");
        checks.due("text(7)", stars.text(7), 1);
        checks.due("text(1)", stars.text(1), -2);
        checks.due("feed", stars.feed(BLANKS, BLANKS, BLANKS, BLANKS, BLANKS), 20);
        checks.due("text(0)", stars.text(0), 0);
        checks.due("text(1) behind text(0)", stars.text(1), -2);
        checks.due("feed", stars.feed(BLANKS, BLANKS, BLANKS, BLANKS, BLANKS), 20);
    }

    private static void emptyWithAFault() {
        checks.sentence("3. it is empty then, with a FAULT too");
        GuestStars stars = new GuestStars();
        Checks.feed(stars, "nope;               turn 5;             ");
        checks.due("text(40)", stars.text(40), -1);
        checks.due("text(1)", stars.text(1), -2);
        checks.due("feed", stars.feed(BLANKS, BLANKS, BLANKS, BLANKS, BLANKS), 20);
    }

    private static void isTheText() {
        checks.sentence("3. are the TEXT: what was told ahead of it is gone");
        GuestStars stars = new GuestStars();
        checks.due("a full text", Checks.tell(stars, FULL), 64);
        checks.due("knots", stars.count(6), 6);
        checks.due("share", stars.share(0), 1);
        checks.due("an empty text", stars.text(0), 0);
        checks.row("count", new long[] {0, 0, 0, 0, 0, 0, 0, 0, 5, 20, 0, 0, 0}, stars::count);
        checks.due("share", stars.share(0), 0);
        for (int what = 0; what < 4; what++) {
            checks.due("named(" + what + ")", stars.named(what, Checks.letters("a")), -1);
        }
        checks.due("a full text again", Checks.tell(stars, FULL), 64);
        checks.due("details of a guest", Checks.tell(stars, "gate g 1 1;book b;reign r 5 5;"
            + "guest r 2 3 4 in b near g 5 north lasts 6 bright 7 moves 8 tail worth 3;"), 4);
        checks.due("no details", Checks.tell(stars, "rock 1 2;"), 1);
        checks.due("not those ahead either", Checks.tell(stars, "rock 1 2;"), 1);
        checks.row("look", new long[] {1, 0, 0, -1, 0, 0, 0, 0, 0, 0, 9, -1, 2}, what -> stars.look(0, what));
        pairsAndEventsAreNew();
        checks.due("a cloud", Checks.tell(stars, "cloud 0 0 plate 1000 10 plate 1010 11 slow 5 tick 1 1;"), 1);
        checks.due("an empty text", stars.text(0), 0);
        checks.due("a cloud", Checks.tell(stars, "cloud 0 0 plate 1000 10 plate 1010 11;"), 1);
        checks.due("without tick", stars.born(0, 3), Integer.MIN_VALUE);
        checks.due("without slow", stars.born(0, 2), 900);
    }

    private static void pairsAndEventsAreNew() {
        String cloud = "cloud 0 0 plate 101 1 plate 102 2;";
        GuestStars stars = checks.told("reign r 100 1;guest r 1 1 1;guest r 1 1 1;" + cloud);
        checks.due("pairs", stars.pairs(0), 1);
        checks.due("events", stars.events(), 1);
        Checks.tell(stars, "rock 100 100;rock 100 100;rock 500 500;" + cloud + cloud);
        checks.due("pairs", stars.pairs(0), 2);
        checks.due("events", stars.events(), 3);
        checks.row("pair", new long[] {0, 1, -1}, stars::pair);
        checks.row("event", new long[] {0, 1, 2}, stars::event);
        Checks.tell(stars, "rock 100 100;?");
        checks.due("with a fault the same pairs", stars.pairs(0), 2);
        checks.due("with a fault the same events", stars.events(), 3);
        stars.text(0);
        checks.due("no pairs", stars.pairs(0), 0);
        checks.due("no events", stars.events(), 0);
    }

    private static void noneDoubtedAllKnown() {
        checks.sentence("3. no GUEST DOUBTED, all KNOWN then");
        GuestStars stars = checks.told("rock 1 1;rock 2 2;rock 3 3;");
        stars.doubt(0, true);
        stars.doubt(2, true);
        stars.known(1);
        Checks.tell(stars, "rock 1 1;rock 2 2;");
        checks.due("doubted()", stars.doubted(), 0);
        checks.due("count(12)", stars.count(12), 2);
        checks.due("events()", stars.events(), 2);
        stars.known(0);
        Checks.tell(stars, "rock 1 1;rock 2 2;rock 3 3;rock 4 4;");
        checks.due("count(12) of more", stars.count(12), 4);
        checks.due("events() of more", stars.events(), 4);
    }

    private static void howManyLines() {
        checks.sentence("3. how many LINES");
        checks.fine("");
        checks.fine("\n  \n");
        checks.fine("turn 1;");
        checks.fine("turn 1;\nblur 1;\n");
        GuestStars stars = new GuestStars();
        checks.due("a full text", Checks.tell(stars, FULL), 64);
        checks.row("count", new long[] {8, 10, 12, 10, 6, 6, 6, 1, 2, 3, 4, 8, 12}, stars::count);
    }

    private static void allStaysWithAFault() {
        checks.sentence("3. NONE with a FAULT, all stays");
        GuestStars stars = checks.told("turn 1;price 2;limit 3;blur 4;reign r 5 6;gate g 7 8;book b;"
            + "guest r 1 2 3 near g 4 east;guest r 1 2 3 in b;cloud 9 10 plate 11 12 plate 13 14;sort s 1 month;watch 5 5 7;");
        stars.doubt(1, true);
        stars.known(1);
        String most = "turn 51;price 52;limit 53;blur 54;reign x 55 56;gate y 57 58;book z;rock 1 2 lasts 5;rock 2 3;rock 3 4;"
            + "cloud 19 20 plate 21 22 plate 23 24;sort q 2 lasts;watch 0 1999 1;";
        for (String text : new String[] {"?", "x", most + "turn", most + "reign x 0 1;", most + "guest x 57 1 1;", most + "rock 0 0 in q;"}) {
            checks.due("text of " + text, Checks.tell(stars, text), -1);
            checks.row("count", new long[] {1, 1, 2, 1, 1, 1, 1, 1, 2, 3, 4, 1, 1}, stars::count);
            checks.due("doubted()", stars.doubted(), 2);
            checks.due("named r", stars.named(0, Checks.letters("r")), 0);
            checks.due("named x", stars.named(0, Checks.letters("x")), -1);
            checks.row("look", new long[] {5, 2, 3, 0, 4, 4, 0, 0, 0, 0, 9, -1, 5}, what -> stars.look(0, what));
            checks.due("place", stars.place(0, 0, 0), 11);
            checks.due("cloud", stars.born(0, 4), 9);
            checks.due("sort", stars.sort(0), 0);
            checks.due("share", stars.share(6), 0);
            checks.due("share", stars.share(5), 7);
            checks.due("event(0)", stars.event(0), 0);
            checks.due("event(1)", stars.event(1), -1);
        }
    }

    private static void notSoMany() {
        checks.sentence("3. -2: there are not so many");
        GuestStars stars = new GuestStars();
        checks.due("text(1) of none", stars.text(1), -2);
        Checks.feed(stars, "turn 5;             ");
        checks.due("text(21) of 20", stars.text(21), -2);
        checks.due("text(40) of 20", stars.text(40), -2);
        checks.due("text of the greatest int", stars.text(Integer.MAX_VALUE), -2);
        checks.due("text(20) of 20", stars.text(20), 1);
    }

    private static void nBelow0() {
        checks.sentence("3. -2: n is below 0");
        GuestStars stars = checks.told("turn 5;");
        Checks.feed(stars, "turn 6;             ");
        checks.due("text(-1)", stars.text(-1), -2);
        checks.due("text(-20)", stars.text(-20), -2);
        checks.due("text of the least int", stars.text(Integer.MIN_VALUE), -2);
        checks.due("turn", stars.count(7), 5);
    }

    private static void tapeStays() {
        checks.sentence("3. -2, and the TAPE stays");
        GuestStars stars = checks.told("rock 1 1;rock 1 1;");
        stars.doubt(0, true);
        stars.known(1);
        Checks.feed(stars, "turn 6;             ");
        checks.due("text(-1)", stars.text(-1), -2);
        checks.due("text(21)", stars.text(21), -2);
        checks.due("feed", stars.feed(BLANKS, BLANKS, BLANKS, BLANKS, BLANKS), 40);
        checks.due("text(41)", stars.text(41), -2);
        checks.due("the TEXT stays", stars.count(2), 2);
        checks.due("the DOUBTED stay", stars.doubted(), 1);
        checks.due("the KNOWN stay", stars.count(12), 1);
        checks.due("text(40)", stars.text(40), 1);
        checks.due("turn", stars.count(7), 6);
    }

    private static void noFaultIsNone() {
        checks.sentence("4. its FAULT (0)");
        GuestStars stars = new GuestStars();
        checks.due("fault(0) ahead of all", stars.fault(0), 0);
        stars.text(0);
        checks.due("fault(0) of an empty text", stars.fault(0), 0);
        String[] texts = {"x;", "turn 60;", "turn 1;turn 1;", "rock 0 0 in b;", "turn 1;"};
        int[] kinds = {1, 2, 3, 4, 0};
        for (int k = 0; k < texts.length; k++) {
            Checks.tell(stars, texts[k]);
            checks.due("fault(0) of " + texts[k], stars.fault(0), kinds[k]);
        }
    }

    private static void latestText() {
        checks.sentence("4. Of the latest text()");
        GuestStars stars = new GuestStars();
        Checks.tell(stars, "turn 60;");
        Checks.tell(stars, "turn 1;x");
        checks.due("fault(0) of the second", stars.fault(0), 1);
        checks.due("fault(1) of the second", stars.fault(1), 7);
        stars.text(0);
        checks.due("fault(0) of the third", stars.fault(0), 0);
        checks.due("fault(1) of the third", stars.fault(1), -1);
    }

    private static void notMinusTwo() {
        checks.sentence("4. that was not -2");
        GuestStars stars = new GuestStars();
        Checks.tell(stars, "turn 1;blur 100;");
        checks.due("text(-1)", stars.text(-1), -2);
        checks.due("text(1)", stars.text(1), -2);
        checks.due("fault(0)", stars.fault(0), 2);
        checks.due("fault(1)", stars.fault(1), 12);
        Checks.tell(stars, "turn 1;");
        checks.due("text(1)", stars.text(1), -2);
        checks.due("fault(0)", stars.fault(0), 0);
        checks.due("fault(1)", stars.fault(1), -1);
    }

    private static void placeWithout() {
        checks.sentence("4. its place (NONE without)");
        GuestStars stars = new GuestStars();
        checks.due("fault(1) ahead of all", stars.fault(1), -1);
        Checks.tell(stars, "x");
        checks.due("fault(1), the first place", stars.fault(1), 0);
        Checks.tell(stars, "turn 1;");
        checks.due("fault(1) without", stars.fault(1), -1);
        Checks.tell(stars, " ".repeat(799) + "x");
        checks.due("fault(1), the last byte", stars.fault(1), 799);
        Checks.tell(stars, " ".repeat(796) + "turn");
        checks.due("fault(1), the length", stars.fault(1), 800);
    }

    private static void anotherFaultWhat() {
        checks.sentence("4. NONE for another what");
        GuestStars stars = new GuestStars();
        checks.refused("fault", 2, -1, stars::fault);
        Checks.tell(stars, "turn 60;");
        checks.refused("fault", 2, -1, stars::fault);
        Checks.tell(stars, "turn 59;");
        checks.refused("fault", 2, -1, stars::fault);
    }

    private static void namesOfEachKind() {
        checks.sentence("5. The number of a REIGN (what 0), GATE (1), SORT (2), BOOK (3)");
        GuestStars stars = checks.told("reign a 0 1;reign b 0 1;reign c 0 1;reign d 0 1;gate d 0 0;gate a 0 0;gate b 0 0;gate c 0 0;"
            + "sort c 1 1;sort d 1 1;sort a 1 1;sort b 1 1;book b;book c;book d;book a;");
        String[] orders = {"abcd", "dabc", "cdab", "bcda"};
        for (int what = 0; what < 4; what++) {
            for (int k = 0; k < 4; k++) {
                String name = orders[what].substring(k, k + 1);
                checks.due("named(" + what + ", " + name + ")", stars.named(what, Checks.letters(name)), k);
            }
        }
        GuestStars full = new GuestStars();
        Checks.tell(full, FULL);
        checks.due("the last reign", full.named(0, Checks.letters("h")), 7);
        checks.due("the last gate", full.named(1, Checks.letters("j")), 9);
        checks.due("the last sort", full.named(2, Checks.letters("f")), 5);
        checks.due("the last book", full.named(3, Checks.letters("h")), 7);
    }

    private static void lettersOfNames() {
        checks.sentence("5. by its letters, 5 bits each (a is 1; the first one highest of six, 0 behind the last one)");
        GuestStars stars = checks.told("book a;book z;book az;book za;book zzzzzz;book abcdef;book aaaaaa;");
        checks.due("a", stars.named(3, 1 << 25), 0);
        checks.due("z", stars.named(3, 26 << 25), 1);
        checks.due("az", stars.named(3, 1 << 25 | 26 << 20), 2);
        checks.due("za", stars.named(3, 26 << 25 | 1 << 20), 3);
        checks.due("zzzzzz", stars.named(3, 26 << 25 | 26 << 20 | 26 << 15 | 26 << 10 | 26 << 5 | 26), 4);
        checks.due("abcdef", stars.named(3, 1 << 25 | 2 << 20 | 3 << 15 | 4 << 10 | 5 << 5 | 6), 5);
        checks.due("aaaaaa", stars.named(3, 1 << 25 | 1 << 20 | 1 << 15 | 1 << 10 | 1 << 5 | 1), 6);
    }

    private static void noneSuchName() {
        checks.sentence("5. NONE: there is none such");
        GuestStars stars = checks.told("reign abc 0 1;gate g 0 0;sort s 1 1;book b;");
        checks.due("ab", stars.named(0, Checks.letters("ab")), -1);
        checks.due("abcd", stars.named(0, Checks.letters("abcd")), -1);
        checks.due("no letters", stars.named(0, 0), -1);
        checks.due("not behind the last one", stars.named(0, Checks.letters("abc") >> 5), -1);
        checks.due("a bit above the six", stars.named(0, Checks.letters("abc") | 1 << 30), -1);
        checks.due("below 0", stars.named(0, Checks.letters("abc") | 1 << 31), -1);
        checks.due("a number 27", stars.named(0, 27 << 25), -1);
        checks.due("a reign isn't a gate", stars.named(1, Checks.letters("abc")), -1);
        checks.due("a gate isn't a sort", stars.named(2, Checks.letters("g")), -1);
        checks.due("a sort isn't a book", stars.named(3, Checks.letters("s")), -1);
        checks.due("a book isn't a reign", stars.named(0, Checks.letters("b")), -1);
        checks.refused("named abc", 4, -1, what -> stars.named(what, Checks.letters("abc")));
        checks.refused("named b", 4, -1, what -> stars.named(what, Checks.letters("b")));
        checks.due("of a new object", new GuestStars().named(0, 0), -1);
        checks.due("of a new object", new GuestStars().named(3, Checks.letters("a")), -1);
    }
}
