/** The edges of the language and its faults, sentence by sentence: which is found, of what kind, at which place. */
public final class FaultEdgesTest {
    private static final Checks checks = new Checks();
    private static final String AHEAD = "reign r 5 6;gate g 7 8;book b;";
    /** A line of each form with all that may come in it, told behind AHEAD; blanks stand between all tokens. */
    private static final String[] LINES = {"reign q 5 6 ;", "gate q 7 8 ;", "book q from b ;",
        "guest r 1 2 3 in b near g 4 north east lasts 5 bright 6 moves 7 worth 8 tail ;",
        "rock 1 2 tail worth 3 moves 4 bright 5 lasts 6 near g 7 west south in b ;",
        "cloud 1 2 plate 3 4 plate 5 6 slow 7 tick 8 9 ;",
        "sort q 1 not lasts + 2 * ( bright - 3 ) / 4 <= 5 and moves or tail <> inches and not month >= 0 ;",
        "watch 1 2 3 ;", "turn 1 ;", "price 2 ;", "limit 3 ;", "blur 4 ;"};
    private static final String[] WORDS = {"reign", "gate", "book", "from", "guest", "rock", "in", "near", "lasts", "bright",
        "moves", "worth", "tail", "cloud", "plate", "slow", "tick", "sort", "watch", "turn", "price", "limit", "blur",
        "north", "south", "east", "west", "or", "and", "not", "inches", "month"};

    public static void main(String[] args) {
        linesAndSemicolons();
        smallLetters();
        oneToSixLetters();
        wordsOfTheLanguage();
        digits();
        blanks();
        whatFollows();
        noTokens();
        moreMustCome();
        cannotStandThere();
        everyTokenEverywhere();
        tooMuchAtIt();
        toldAlready();
        toldAlreadyOnce();
        secondSides();
        notToldAhead();
        firstAlongTheText();
        ofOnePlaceTheLeast();
        checks.finish("FaultEdgesTest");
    }

    private static void linesAndSemicolons() {
        checks.sentence("A TEXT: { LINE ';' }");
        checks.fine("");
        checks.fine("turn 1;");
        checks.fine("turn 1;price 1;");
        checks.fault(1, "|;");
        checks.fault(1, "turn 1;|;");
        checks.fault(1, "turn 1;|;price 1;");
        checks.fault(1, "turn 1|");
        checks.fault(1, "turn 1 |price 1;");
        checks.fault(1, "turn 1|, price 1;");
        for (String line : LINES) {
            checks.fine(AHEAD + line);
            checks.fine(AHEAD + line.replace(" ;", ";"));
        }
    }

    private static void smallLetters() {
        checks.sentence("Words: small letters in a row");
        checks.fine("book a;book z;book az;");
        checks.fault(1, "|Turn 1;");
        checks.fault(1, "|TURN 1;");
        checks.fault(1, "|turN 1;");
        checks.fault(1, "book |A;");
        checks.fault(1, "book a|B;");
        // The signs next to a and z.
        checks.fault(1, "book |`;");
        checks.fault(1, "book |{;");
        checks.fault(1, "book a|`;");
        checks.fault(1, "book z|{;");
        checks.fault(1, "|tu rn 1;");
    }

    private static void oneToSixLetters() {
        checks.sentence("W: one of 1 .. 6 letters");
        for (String line : new String[] {"reign # 0 1;", "gate # 0 0;", "book #;", "sort # 1 1;"}) {
            int place = line.indexOf('#');
            checks.fine(line.replace("#", "a"));
            checks.fine(line.replace("#", "abcdef"));
            checks.fine(line.replace("#", "zzzzzz"));
            checks.fault(1, line.substring(0, place) + "|" + line.substring(place).replace("#", "abcdefg"));
            checks.fault(1, line.substring(0, place) + "|" + line.substring(place).replace("#", "a".repeat(40)));
            checks.fault(1, line.substring(0, place) + "|" + line.substring(place).replace("# ", "").replace("#", ""));
        }
        checks.fine("book abcdef;book abcdeg;book abcde;");
        checks.fault(3, "book abcdef;book |abcdef;");
    }

    private static void wordsOfTheLanguage() {
        checks.sentence("W: none of those of the language");
        for (String word : WORDS) {
            checks.fault(1, "reign |" + word + " 0 1;");
            checks.fault(1, "gate |" + word + " 0 0;");
            checks.fault(1, "book |" + word + ";");
            checks.fault(1, "sort |" + word + " 1 1;");
            checks.fault(1, "guest |" + word + " 1 1 1;");
            checks.fault(1, "rock 0 0 in |" + word + ";");
            checks.fault(1, "rock 0 0 near |" + word + " 1 north;");
            checks.fault(1, "book a;book b from |" + word + ";");
            // What is longer or shorter by a letter is a name.
            checks.fine(word.length() < 6 ? "book " + word + "q;" : "");
            checks.fine(word.length() > 2 ? "book q" + word.substring(2) + ";" : "");
        }
        checks.fine("book e;book years;book round;book day;");
    }

    private static void digits() {
        checks.sentence("N: digits");
        checks.fine("limit 0;");
        checks.fine("limit 987;");
        checks.fault(1, "limit |-1;");
        checks.fault(1, "limit |+1;");
        checks.fault(1, "limit 1|.0;");
        checks.fault(1, "limit 1|e;");
        checks.fault(1, "limit 1 |0;");
        // The signs next to 0 and 9.
        checks.fault(1, "limit |/;");
        checks.fault(1, "limit |:;");
        checks.fault(1, "limit 1|/;");
        checks.fault(1, "limit 1|:;");
    }

    private static void blanks() {
        checks.sentence("Blanks 10, 32");
        checks.fine(" \n turn\n\n1 \n;\n ");
        checks.fine("turn 1;\n");
        for (int sign = 0; sign < 256; sign++) {
            if (sign == 10 || sign == 32) {
                checks.fine((char) sign + "turn" + (char) sign + "1" + (char) sign + ";" + (char) sign);
            } else if (sign != ';' && !(sign >= 'a' && sign <= 'z') && !(sign >= '0' && sign <= '9')) {
                checks.fault(1, "|" + (char) sign + "turn 1;");
                checks.fault(1, "turn |" + (char) sign + "1;");
                checks.fault(1, "turn 1|" + (char) sign + ";");
                checks.fault(1, "turn 1;|" + (char) sign);
            }
        }
    }

    private static void whatFollows() {
        checks.sentence("Words: small letters in a row; N: digits: nothing need stand between");
        checks.fine("reign a1 2;gate b3 4;turn5;cloud1 2plate3 4plate5 6slow7tick8 9;rock1 2near b3north east;"
            + "sort s1not(lasts);");
        checks.fault(1, "reign |1a 2;");
        checks.fault(4, "book b;rock1 2in |c3;");
        checks.fault(1, "rock1 2tail|3;");
        checks.fault(1, "gate g0 0;rock1 2near g3|northeast;");
    }

    /** Runs through all lines, each cut ahead of each of its tokens but the first. */
    private static void moreMustCome() {
        checks.sentence("1 (the length, if more must come)");
        for (String line : LINES) {
            for (int k = line.indexOf(' '); k >= 0; k = line.indexOf(' ', k + 1)) {
                checks.fault(1, AHEAD + line.substring(0, k) + "|");
                checks.fault(1, AHEAD + line.substring(0, k) + " \n |");
            }
        }
        checks.fault(1, "turn|");
        checks.fault(1, " ".repeat(790) + "turn 1    |");
        GuestStars stars = new GuestStars();
        Checks.feed(stars, "turn 1;price 9;     ");
        checks.due("the length is n, not the TAPE's", stars.text(6), -1);
        checks.due("its place", stars.fault(1), 6);
    }

    private static void noTokens() {
        checks.sentence("1 a TOKEN that is none (a word of more than 6 letters, too)");
        for (String none : new String[] {"?", "Q", ",", "_", "\t", "\u00e4", "\0", "abcdefg", "reignxx", "northeast", "insides"}) {
            for (String line : LINES) {
                checks.fault(1, AHEAD + "|" + none + " " + line);
                for (int k = line.indexOf(' '); k >= 0; k = line.indexOf(' ', k + 1)) {
                    checks.fault(1, AHEAD + line.substring(0, k + 1) + "|" + none + line.substring(k));
                }
            }
        }
        checks.fault(1, "turn 1;|abcdefg");
    }

    private static void cannotStandThere() {
        checks.sentence("1 a TOKEN that can't stand there");
        // A word where a number, a number where a word must stand, words of other lines.
        for (String marked : new String[] {"reign |5 6 7;", "reign r |s 6;", "reign r 5 |s;", "reign r 5 6 |7;", "gate |5 6 7;",
            "gate g |h 7;", "gate g 5 |h;", "gate g 5 6 |7;", "book |5;", "book b |5;", "book b |c;", "book b;book c from |5;",
            "book b;book c from|;", "book b;book c from b |from b;", "guest |5 1 1 1;", "reign r 0 1;guest r |r 1 1;",
            "reign r 0 1;guest r 1 |r 1;", "reign r 0 1;guest r 1 1 |r;", "reign r 0 1;guest r 1 1 1 |1;",
            "reign r 0 1;guest r 1 1 |tail;", "rock |r 1 1;", "rock 1 |in;", "rock 1 1 |1;", "rock 1 1 |plate;", "rock 1 1 |slow 5;",
            "rock 1 1 |tick 5 5;", "rock 1 1 |from b;", "rock 1 1 |north;", "rock 1 1 |inches 5;", "rock 1 1 |month 5;",
            "rock 1 1 in |5;", "rock 1 1 near |5 1 north;", "gate g 0 0;rock 1 1 near g |north;", "gate g 0 0;rock 1 1 near g 1 |1;",
            "rock 1 1 lasts |tail;", "rock 1 1 bright |tail;", "rock 1 1 moves|;", "rock 1 1 worth |x;", "rock 1 1 tail |1;",
            "cloud |x 1 plate 1 1 plate 2 2;", "cloud 1 |plate 1 1 plate 2 2;", "cloud 1 1 |1 1 plate 2 2;",
            "cloud 1 1 plate |plate 1 1;", "cloud 1 1 plate 1 |plate 2 2;", "cloud 1 1 plate 1 1 |2 2;",
            "cloud 1 1 plate 1 1 |tick 1 1;", "cloud 1 1 plate 1 1 plate 2 |slow 1;", "cloud 1 1 plate 1 1 plate 2 2 slow |tick 1 1;",
            "cloud 1 1 plate 1 1 plate 2 2 tick 1 |slow 1;", "cloud 1 1 plate 1 1 plate 2 2 |tail;",
            "cloud 1 1 plate 1 1 plate 2 2 |near;", "cloud 1 1 plate 1 1 plate 2 2 |1;", "sort |5 1 1;", "sort s |s 1;",
            "sort s |tail;", "watch |x 1 1;", "watch 1 |x 1;", "watch 1 1|;", "watch 1 1 1 |1;", "turn |x;", "turn|;", "turn 1 |1;",
            "price |tail;", "limit |not 1;", "blur |(1);", "|5;", "|from b;", "|in b;", "|near;", "|tail;", "|plate 1 1;", "|slow 1;",
            "|tick 1 1;", "|north;", "|not;", "|or;", "|and;", "|lasts 5;", "|inches;", "|month 1;", "|x;", "|+;", "|(;", "|<=;"}) {
            checks.fault(1, marked);
        }
    }

    /** Behind each token of each line each token that there is: the fault must be the one of the grammar, read rule by rule. */
    private static void everyTokenEverywhere() {
        checks.sentence("1 a TOKEN that can't stand there, any of them anywhere");
        String signs = "; ( ) + - * / < <= = <> >= > 0 1 2 9999 10000 q r g b";
        String[] tokens = (String.join(" ", WORDS) + " " + signs).split(" ");
        for (String line : LINES) {
            for (int k = line.indexOf(' '); k >= 0; k = line.indexOf(' ', k + 1)) {
                for (String token : tokens) {
                    asTheGrammarHasIt(AHEAD + line.substring(0, k + 1) + token + " ");
                    asTheGrammarHasIt(AHEAD + line.substring(0, k + 1) + token + line.substring(k));
                }
            }
        }
        for (String token : tokens) {
            asTheGrammarHasIt(token);
            asTheGrammarHasIt("turn 1;" + token);
        }
    }

    private static void asTheGrammarHasIt(String text) {
        Oracle oracle = new Oracle(text);
        int kind = 0;
        int place = -1;
        try {
            oracle.read();
        } catch (Oracle.Fault fault) {
            kind = fault.kind;
            place = fault.place;
        }
        GuestStars stars = new GuestStars();
        checks.due("text of " + text, Checks.tell(stars, text), kind == 0 ? oracle.lines : -1);
        checks.due("fault of " + text, stars.fault(0), kind);
        checks.due("place of " + text, stars.fault(1), place);
    }

    private static void tooMuchAtIt() {
        checks.sentence("2 too much (at it): of a watch, rock b below a, of a second PLATE a YEAR or SIZE not above the first");
        checks.fault(2, "watch 5 |4 1;");
        checks.fine("watch 5 5 1;");
        checks.fault(2, "rock 5 |4;");
        checks.fine("rock 5 5;");
        checks.fault(2, "rock 1999 |1998;");
        checks.fault(2, "cloud 0 0 plate 5 5 plate |5 6;");
        checks.fault(2, "cloud 0 0 plate 5 5 plate 6 |5;");
        checks.fault(2, "cloud 0 0 plate 5 5 plate |4 4;");
        checks.fine("cloud 0 0 plate 5 5 plate 6 6;");
        checks.sentence("2 a ninth reign and so on (at the word of the LINE)");
        String full = TapeEdgesTest.FULL;
        for (String line : new String[] {"reign z 0 1;", "gate z 0 0;", "book z;", "guest a 1 1 1;", "rock 0 0;",
            "cloud 0 0 plate 0 1 plate 1 2;", "sort z 1 1;", "watch 0 0 1;"}) {
            checks.fault(2, full + "|" + line);
        }
    }

    private static void toldAlready() {
        checks.sentence("3 told already: a name of its kind (at W)");
        checks.fault(3, "reign abc 0 1;reign |abc 0 1;");
        checks.fault(3, "gate a 0 0;gate b 0 0;gate |a 0 0;");
        checks.fault(3, "book a;book b;book |b;");
        checks.fault(3, "sort a 1 1;sort b 1 1;sort |a 1 1;");
        checks.fault(3, "book a;book |a from a;");
        checks.fault(3, "reign a 0 1;reign |a 9999 99;");
        checks.fine("reign a 0 1;reign aa 0 1;reign ab 0 1;reign b 0 1;");
    }

    private static void toldAlreadyOnce() {
        checks.sentence("3 told already: in, near, lasts, bright, moves, worth, tail, slow, tick, turn, price, limit, blur (at the word)");
        String[] details = {"in b", "near g 1 north", "lasts 1", "bright 1", "moves 1", "worth 1", "tail"};
        for (String detail : details) {
            String word = detail.split(" ")[0];
            for (String start : new String[] {"rock 1 1 ", "guest r 1 1 1 "}) {
                checks.fault(3, AHEAD + start + detail + " |" + detail + ";");
                checks.fault(3, AHEAD + start + detail + " |" + word);
                for (String between : details) {
                    checks.fault(3, AHEAD + start + detail + (between.equals(detail) ? "" : " " + between) + " |" + word + " ?");
                }
                // Of another guest it may be told again.
                checks.fine(AHEAD + start + detail + ";" + start + detail + ";");
            }
        }
        String cloud = "cloud 0 0 plate 1 1 plate 2 2 ";
        checks.fault(3, cloud + "slow 1 |slow 1;");
        checks.fault(3, cloud + "slow 10 |slow");
        checks.fault(3, cloud + "tick 1 1 |tick 1 1;");
        checks.fault(3, cloud + "tick 1 1 slow 1 |tick");
        checks.fine(cloud + "slow 1 tick 1 1;" + cloud + "tick 1 1 slow 1;");
        for (String word : new String[] {"turn", "price", "limit", "blur"}) {
            checks.fault(3, word + " 1;|" + word + " 1;");
            checks.fault(3, word + " 0;|" + word + " 0;");
            checks.fault(3, word + " 1;rock 1 1;|" + word);
        }
        // Told as what it is without: still told.
        checks.fault(3, "price 5;|price 5;");
        checks.fault(3, "limit 20;|limit 20;");
        checks.fault(3, "rock 1 1 worth 9 |worth 9;");
        checks.fault(3, "rock 1 1 bright 0 |bright 0;");
        checks.fault(3, "rock 1 1 moves 0 |moves 0;");
        checks.fine("turn 1;price 1;limit 1;blur 1;");
    }

    private static void secondSides() {
        checks.sentence("3 a second SIDE of those of the first one (at it)");
        String near = "gate g 0 0;rock 0 0 near g 1 ";
        String[] sides = {"north", "south", "east", "west"};
        for (int a = 0; a < 4; a++) {
            for (int b = 0; b < 4; b++) {
                if (a / 2 == b / 2) {
                    checks.fault(3, near + sides[a] + " |" + sides[b] + ";");
                    checks.fault(3, near + sides[a] + " |" + sides[b]);
                } else {
                    checks.fine(near + sides[a] + " " + sides[b] + ";");
                }
            }
        }
    }

    private static void notToldAhead() {
        checks.sentence("4 a REIGN, GATE, BOOK that isn't told ahead (at W)");
        checks.fault(4, "guest |r 1 1 1;");
        checks.fault(4, "guest |r 1 1 1;reign r 0 1;");
        checks.fault(4, "reign q 0 1;guest |r 1 1 1;");
        checks.fault(4, "reign rr 0 1;guest |r 1 1 1;");
        checks.fault(4, "rock 0 0 near |g 1 north;gate g 0 0;");
        checks.fault(4, "rock 0 0 near |g 0 x;");
        checks.fault(4, "rock 0 0 in |b;book b;");
        checks.fault(4, "book a from |b;");
        checks.fault(4, "book a from |a;");
        checks.fine("reign r 0 1;guest r 1 1 1;gate g 0 0;guest r 1 1 1 near g 1 north;book b;guest r 1 1 1 in b;book c from b;");
        // What an earlier text told isn't told ahead in this one.
        GuestStars stars = checks.told(AHEAD);
        checks.due("text", Checks.tell(stars, "guest r 1 1 1;"), -1);
        checks.due("fault", stars.fault(0), 4);
        checks.due("text", Checks.tell(stars, "rock 1 1 in b;"), -1);
        checks.due("fault", stars.fault(0), 4);
        checks.due("text", Checks.tell(stars, "rock 1 1 near g 1 north;"), -1);
        checks.due("fault", stars.fault(0), 4);
        // Nor is one that a text with a fault told.
        GuestStars spoilt = new GuestStars();
        Checks.tell(spoilt, "reign r 0 1;x");
        checks.due("text", Checks.tell(spoilt, "guest r 1 1 1;"), -1);
        checks.due("fault", spoilt.fault(0), 4);
        checks.due("text", Checks.tell(spoilt, "reign r 0 1;turn 1;x"), -1);
        checks.due("what it told may be told", Checks.tell(spoilt, "reign r 0 1;turn 1;"), 2);
    }

    private static void firstAlongTheText() {
        checks.sentence("FAULTS, the first along the text");
        checks.fault(4, "guest |r 99 99 99 ?;");
        checks.fault(3, "turn 1;|turn 99;?");
        checks.fault(2, "turn |60 ?;turn");
        checks.fault(1, "turn |?;turn 60;guest r;");
        checks.fault(2, "reign r |1901 61;guest q;");
        checks.fault(2, "reign r 1900 |61;reign r;");
        checks.fault(2, "rock |2000 1999;");
        checks.fault(2, "cloud |120 60 plate 3000 0;");
        checks.fault(2, "cloud 0 0 plate 5 5 plate |5 5 slow 11;");
        checks.fault(4, "gate g 0 0;rock 0 0 near |h 0 up;");
        checks.fault(2, "gate g 0 0;rock 0 0 near g |0 up;");
        checks.fault(3, "rock 0 0 tail |tail lasts 0;");
        checks.fault(2, "sort a |0 ?;");
        checks.fault(3, "sort a 1 1;sort |a 0 ?;");
        checks.fault(2, "watch |2000 1999 0;");
        checks.fault(2, "watch 1999 |1998 0;");
    }

    private static void ofOnePlaceTheLeast() {
        checks.sentence("FAULTS (of one place the least)");
        // A sign, not or number that can't stand there, and is the 65th KNOT too; a ninth '(' that can't stand there.
        String sixtyFour = "sort a 1 not 1" + "+1".repeat(31);
        checks.fault(1, sixtyFour + " |not");
        checks.fault(1, sixtyFour + " |5");
        checks.fault(1, sixtyFour + " |10000");
        checks.fault(1, sixtyFour + " |tail");
        checks.fault(2, sixtyFour + " |+");
        checks.fault(1, "sort a 1 not 1<1" + "+1".repeat(30) + " |<");
        checks.fault(1, "sort a 1 not 1<1" + "+1".repeat(30) + " |>=1;");
        checks.fault(1, sixtyFour + ";sort b 1 |+");
        checks.fault(1, sixtyFour + ";sort b 1 |and");
        checks.fault(1, sixtyFour + ";sort b 1 |worth;");
        checks.fault(2, sixtyFour + ";sort b 1 |10000;");
        checks.fault(1, "sort a 1 ((((((((1 |(");
        checks.fault(1, "sort a 1 ((((((((1 + 1 |(1)))))))));");
        // A word of the language is no W, whatever else is wrong with it as a name.
        checks.fault(1, "rock 0 0 in |in;");
        checks.fault(1, "guest |guest 1 1 1;");
    }
}
