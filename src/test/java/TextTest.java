/** Promises 1 to 5: a new object, the tape, texts, their faults, names. */
public final class TextTest {
    private static final Checks checks = new Checks();

    public static void main(String[] args) {
        newObject();
        tape();
        texts();
        faultsStay();
        names();
        tokens();
        numbers();
        tooMany();
        twice();
        untold();
        rules();
        details();
        checks.finish("TextTest");
    }

    private static void newObject() {
        GuestStars stars = new GuestStars();
        for (int what = 0; what <= 12; what++) {
            int want = what == 8 ? 5 : what == 9 ? 20 : 0;
            checks.due("new: count(" + what + ")", stars.count(what), want);
        }
        checks.due("new: fault(0)", stars.fault(0), 0);
        checks.due("new: fault(1)", stars.fault(1), -1);
        checks.due("new: doubted()", stars.doubted(), 0);
        checks.due("new: text(1)", stars.text(1), -2);
        checks.due("new: text(0)", stars.text(0), 0);
    }

    private static void tape() {
        GuestStars stars = new GuestStars();
        for (int k = 1; k <= 40; k++) {
            checks.due("feed " + k, stars.feed(0x20202020, 0x0a0a0a0a, 0x20202020, 0x20202020, 0x20202020), 20 * k);
        }
        checks.due("feed 41", stars.feed(0x20202020, 0, 0, 0, 0), -1);
        checks.due("text(801)", stars.text(801), -2);
        checks.due("text(-1)", stars.text(-1), -2);
        checks.due("text(800) of blanks", stars.text(800), 0);
        checks.due("text(1) of an empty tape", stars.text(1), -2);
        checks.due("feed after text", stars.feed(0, 0, 0, 0, 0), 20);
        checks.due("feed again", stars.feed(0x20202020, 0, 0, 0, 0), 40);
        checks.due("text of zero bytes", stars.text(20), -1);
        checks.due("fault", stars.fault(0), 1);
        checks.due("place", stars.fault(1), 0);
        stars.feed(0x7475726e, 0x20373b80, 0xffffffff, 0, 0);
        checks.due("the highest byte is the first", stars.text(7), 1);
        checks.due("turn", stars.count(7), 7);
        stars.feed(0x7475726e, 0x20383b80, 0xffffffff, 0, 0);
        checks.due("a byte above 127", stars.text(8), -1);
        checks.due("its place", stars.fault(1), 7);
        checks.due("turn stays", stars.count(7), 7);
    }

    private static void texts() {
        GuestStars stars = new GuestStars();
        checks.due("lines", Checks.tell(stars, "turn 3;\nprice 4 ; limit\n5;blur 6;"), 4);
        checks.due("turn", stars.count(7), 3);
        checks.due("price", stars.count(8), 4);
        checks.due("limit", stars.count(9), 5);
        checks.due("blur", stars.count(10), 6);
        checks.due("fault(0)", stars.fault(0), 0);
        checks.due("fault(1)", stars.fault(1), -1);
        checks.due("fault(2)", stars.fault(2), -1);
        checks.due("fault(-1)", stars.fault(-1), -1);
        checks.due("another text", Checks.tell(stars, "rock 1 2;rock 3 4;rock 5 6;"), 3);
        checks.due("price is as without", stars.count(8), 5);
        checks.due("limit is as without", stars.count(9), 20);
        checks.due("turn is as without", stars.count(7), 0);
        checks.due("blur is as without", stars.count(10), 0);
        stars.doubt(1, true);
        stars.known(2);
        checks.due("known", stars.count(12), 2);
        checks.due("a text again", Checks.tell(stars, "rock 1 2;rock 3 4;"), 2);
        checks.due("none doubted then", stars.doubted(), 0);
        checks.due("all known then", stars.count(12), 2);
        checks.due("tokens need no blanks", Checks.tell(stars, "reign a1 2;gate b(3 4;"), -1);
        checks.due("fault at the bracket", stars.fault(1), 17);
        checks.due("tokens need no blanks", Checks.tell(stars, "reign a1 2;gate b3 4;"), 2);
        checks.due("leading noughts", Checks.tell(stars, "turn 0000000000000000000000000059;"), 1);
        checks.due("turn", stars.count(7), 59);
    }

    private static void faultsStay() {
        GuestStars stars = checks.told("turn 9;rock 1 2;rock 3 4;");
        stars.doubt(1, true);
        stars.known(1);
        fault(stars, "turn 8;rock 5 6;sort a 1 tail;x", 1, 30);
        checks.due("turn stays", stars.count(7), 9);
        checks.due("guests stay", stars.count(2), 2);
        checks.due("sorts stay", stars.count(4), 0);
        checks.due("known stays", stars.count(12), 1);
        checks.due("doubted stays", stars.doubted(), 2);
        checks.due("rock stays", stars.look(0, 0), 1);
        checks.due("text(1)", stars.text(1), -2);
        checks.due("fault by -2 stays", stars.fault(0), 1);
        checks.due("place by -2 stays", stars.fault(1), 30);
        Checks.feed(stars, "turn 5;             ");
        checks.due("text(21)", stars.text(21), -2);
        checks.due("the tape stays by -2", stars.text(20), 1);
        checks.due("turn", stars.count(7), 5);
        checks.due("no fault", stars.fault(0), 0);
        checks.due("no place", stars.fault(1), -1);
    }

    private static void names() {
        GuestStars stars = checks.told("reign a 0 1;reign z 0 1;reign abcdef 0 1;gate a 0 0;gate bb 0 0;"
            + "book c;book a;sort x 1 1;sort a 1 1;");
        checks.due("reign a", stars.named(0, Checks.letters("a")), 0);
        checks.due("reign z", stars.named(0, Checks.letters("z")), 1);
        checks.due("reign abcdef", stars.named(0, Checks.letters("abcdef")), 2);
        checks.due("reign abcde", stars.named(0, Checks.letters("abcde")), -1);
        checks.due("gate a", stars.named(1, 1 << 25), 0);
        checks.due("gate bb", stars.named(1, 2 << 25 | 2 << 20), 1);
        checks.due("sort a", stars.named(2, 1 << 25), 1);
        checks.due("book a", stars.named(3, 1 << 25), 1);
        checks.due("book c", stars.named(3, 3 << 25), 0);
        checks.due("book z", stars.named(3, Checks.letters("z")), -1);
        checks.due("low letters", stars.named(0, 1), -1);
        checks.due("0", stars.named(0, 0), -1);
        checks.due("more bits", stars.named(0, 1 << 30 | 1 << 25), -1);
        checks.due("below 0", stars.named(0, 1 << 31 | 1 << 25), -1);
        checks.due("what 4", stars.named(4, 1 << 25), -1);
        checks.due("what -1", stars.named(-1, 1 << 25), -1);
    }

    private static void tokens() {
        fault("x", 1, 0);
        fault("  x", 1, 2);
        fault(";", 1, 0);
        fault("turn 1;;", 1, 7);
        fault("turn 1", 1, 6);
        fault("turn 1  ", 1, 8);
        fault("turn", 1, 4);
        fault("turn ;", 1, 5);
        fault("turn 1\t;", 1, 6);
        fault("Turn 1;", 1, 0);
        fault("turns 1;", 1, 0);
        fault("turn 1 2;", 1, 7);
        fault("reign abcdefg 0 1;", 1, 6);
        fault("reign month 0 1;", 1, 6);
        fault("reign inches 0 1;", 1, 6);
        fault("reign or 0 1;", 1, 6);
        fault("reign 5 0 1;", 1, 6);
        fault("reign a b 1;", 1, 8);
        fault("reign a 0;", 1, 9);
        fault("book;", 1, 4);
        fault("book a b;", 1, 7);
        fault("book a from;", 1, 11);
        fault("book a from from;", 1, 12);
        fault("guest turn 1 1 1;", 1, 6);
        fault("rock 1;", 1, 6);
        fault("rock 1 2 plate;", 1, 9);
        fault("rock 1 2 in near;", 1, 12);
        fault("gate g 0 0;rock 1 2 near g 1;", 1, 28);
        fault("gate g 0 0;rock 1 2 near g north;", 1, 27);
        fault("gate g 0 0;rock 1 2 near g 1 north east west;", 1, 40);
        fault("cloud 1 1 plate 1 1;", 1, 19);
        fault("cloud 1 1 plate 1 1 plate 2 2 tail;", 1, 30);
        fault("cloud 1 1 plate 1 1 plate 2 2 tick 5;", 1, 36);
        fault("watch 1 2;", 1, 9);
        fault("north;", 1, 0);
        fault("sort a 1 lasts", 1, 14);
        fault("turn -1;", 1, 5);
    }

    private static void numbers() {
        fine("reign a 1900 60;reign b 0 1;");
        fault("reign a 1901 0;", 2, 8);
        fault("reign a 0 0;", 2, 10);
        fault("reign a 0 61;", 2, 10);
        fine("gate a 119 59;");
        fault("gate a 120 60;", 2, 7);
        fault("gate a 119 60;", 2, 11);
        fine("reign a 0 2;guest a 2 12 59;guest a 1 1 0;");
        fault("reign a 0 2;guest a 0 1 0;", 2, 20);
        fault("reign a 0 2;guest a 3 1 0;", 2, 20);
        fault("reign a 0 2;guest a 1 0 0;", 2, 22);
        fault("reign a 0 2;guest a 1 13 0;", 2, 22);
        fault("reign a 0 2;guest a 1 1 60;", 2, 24);
        fine("rock 1999 1999;rock 0 0;");
        fault("rock 2000 2000;", 2, 5);
        fault("rock 0 2000;", 2, 7);
        fault("rock 5 4;", 2, 7);
        fine("gate g 0 0;rock 0 0 near g 20 west lasts 999 bright 20 moves 99 worth 9;");
        fine("gate g 0 0;rock 0 0 near g 1 west lasts 1 bright 0 moves 0 worth 1;");
        fault("gate g 0 0;rock 0 0 near g 0 west;", 2, 27);
        fault("gate g 0 0;rock 0 0 near g 21 west;", 2, 27);
        fault("rock 0 0 lasts 0;", 2, 15);
        fault("rock 0 0 lasts 1000;", 2, 15);
        fault("rock 0 0 bright 21;", 2, 16);
        fault("rock 0 0 moves 100;", 2, 15);
        fault("rock 0 0 worth 0;", 2, 15);
        fault("rock 0 0 worth 10;", 2, 15);
        fine("cloud 119 59 plate 0 1 plate 2999 9999 slow 1 tick 1 1;");
        fine("cloud 0 0 plate 2998 9998 plate 2999 9999 slow 10 tick 9999 9999;");
        fault("cloud 120 0", 2, 6);
        fault("cloud 0 60", 2, 8);
        fault("cloud 0 0 plate 3000 0", 2, 16);
        fault("cloud 0 0 plate 0 0", 2, 18);
        fault("cloud 0 0 plate 0 10000", 2, 18);
        fault("cloud 0 0 plate 5 5 plate 5 5", 2, 26);
        fault("cloud 0 0 plate 5 5 plate 3000 5", 2, 26);
        fault("cloud 0 0 plate 2999 5 plate 3000 5", 2, 29);
        fault("cloud 0 0 plate 5 5 plate 6 5", 2, 28);
        fault("cloud 0 0 plate 5 5 plate 6 10000", 2, 28);
        fault("cloud 0 0 plate 5 5 plate 6 6 slow 0", 2, 35);
        fault("cloud 0 0 plate 5 5 plate 6 6 slow 11", 2, 35);
        fault("cloud 0 0 plate 5 5 plate 6 6 tick 0", 2, 35);
        fault("cloud 0 0 plate 5 5 plate 6 6 tick 1 10000", 2, 37);
        fine("sort a 1 0;sort b 99 9999;");
        fault("sort a 0 0;", 2, 7);
        fault("sort a 100 0;", 2, 7);
        fault("sort a 1 10000;", 2, 9);
        fine("watch 0 1999 1;watch 5 5 10;");
        fault("watch 2000 0 0;", 2, 6);
        fault("watch 5 4 0;", 2, 8);
        fault("watch 5 2000 0;", 2, 8);
        fault("watch 5 5 0;", 2, 10);
        fault("watch 5 5 11;", 2, 10);
        fine("turn 59;price 99;limit 999;blur 99;");
        fault("turn 60;", 2, 5);
        fault("price 100;", 2, 6);
        fault("limit 1000;", 2, 6);
        fault("blur 100;", 2, 5);
        fault("turn 99999999999999999999999999999999999;", 2, 5);
        fault("turn 4294967296;", 2, 5);
    }

    private static void tooMany() {
        tooMany("reign # 0 1;", 8);
        tooMany("gate # 0 0;", 10);
        tooMany("book #;", 8);
        tooMany("rock 0 0;", 12);
        tooMany("cloud 0 0 plate 0 1 plate 1 2;", 10);
        tooMany("sort # 1 1;", 6);
        tooMany("watch 0 0 1;", 6);
        StringBuilder mixed = new StringBuilder("reign r 0 1;");
        for (int k = 0; k < 12; k++) {
            mixed.append(k % 2 == 0 ? "rock 0 0;" : "guest r 1 1 0;");
        }
        fine(mixed.toString());
        fault(mixed + " guest q", 2, mixed.length() + 1);
        fault(mixed + "rock", 2, mixed.length());
    }

    private static void tooMany(String line, int most) {
        StringBuilder text = new StringBuilder();
        for (int k = 0; k < most; k++) {
            text.append(line.replace('#', (char) ('a' + k)));
        }
        fine(text.toString());
        fault(text + " " + line.replace('#', 'a'), 2, text.length() + 1);
    }

    private static void twice() {
        fault("reign a 0 1;reign a 0 1;", 3, 18);
        fine("reign a 0 1;gate a 0 0;book a;sort a 1 1;");
        fault("gate a 0 0;gate a 999 0;", 3, 16);
        fault("book a;book a from b;", 3, 12);
        fault("sort a 1 1;sort a 100 1;", 3, 16);
        fault("book a;gate g 0 0;rock 0 0 in a in b;", 3, 32);
        fault("gate g 0 0;rock 0 0 near g 1 west near", 3, 34);
        fault("rock 0 0 lasts 1 lasts 1;", 3, 17);
        fault("rock 0 0 bright 1 tail bright 1;", 3, 23);
        fault("rock 0 0 moves 1 moves 1;", 3, 17);
        fault("rock 0 0 worth 1 worth 1;", 3, 17);
        fault("rock 0 0 tail tail;", 3, 14);
        fault("cloud 0 0 plate 5 5 plate 6 6 slow 1 tick 1 1 slow", 3, 46);
        fault("cloud 0 0 plate 5 5 plate 6 6 tick 1 1 slow 1 tick", 3, 46);
        fault("turn 1;turn 1;", 3, 7);
        fault("price 1;price 1;", 3, 8);
        fault("limit 1;limit 1;", 3, 8);
        fault("blur 1;blur 1;", 3, 7);
        String near = "gate g 0 0;rock 0 0 near g 1 ";
        fault(near + "north south;", 3, near.length() + 6);
        fault(near + "south north;", 3, near.length() + 6);
        fault(near + "south south;", 3, near.length() + 6);
        fault(near + "east west;", 3, near.length() + 5);
        fault(near + "west west;", 3, near.length() + 5);
        fine(near + "west north;");
        fine(near + "south east;");
    }

    private static void untold() {
        fault("guest a 1 1 1;reign a 0 1;", 4, 6);
        fault("rock 0 0 in a;book a;", 4, 12);
        fault("rock 0 0 near a 0;", 4, 14);
        fault("book a from a;", 4, 12);
        fault("gate a 0 0;book b from a;", 4, 23);
        fine("book a;book b from a;book c from b;book d from a;");
    }

    private static void rules() {
        fine("sort a 1 not not lasts<=bright or moves<>tail and inches>=month;");
        fine("sort a 1 ((((((((1))))))))+((((((((1))))))));");
        fault("sort a 1 (((((((((1)))))))));", 2, 17);
        fault("sort a 1 ();", 1, 10);
        fault("sort a 1 (1;", 1, 11);
        fault("sort a 1 (1", 1, 11);
        fault("sort a 1 1);", 1, 10);
        fault("sort a 1 1 < = 2;", 1, 13);
        fault("sort a 1 1 < 2 < 3;", 1, 15);
        fault("sort a 1 1 < 2 + 3 = 3;", 1, 19);
        fine("sort a 1 (1 < 2) < 3;");
        fine("sort a 1 1 < 2 and 3 < 4 or 5 = 6;");
        fault("sort a 1 1 >< 2;", 1, 12);
        fault("sort a 1 1 => 2;", 1, 12);
        fault("sort a 1 1 + not 2;", 1, 13);
        fault("sort a 1 1 < not 2;", 1, 13);
        fault("sort a 1 1 not 2;", 1, 11);
        fault("sort a 1 - 2;", 1, 9);
        fault("sort a 1 1 2;", 1, 11);
        fault("sort a 1 1 lasts;", 1, 11);
        fault("sort a 1 worth;", 1, 9);
        fault("sort a 1 a;", 1, 9);
        fault("sort a 1 1 +;", 1, 12);
        fault("sort a 1 1 and or 2;", 1, 15);
        fault("sort a 1 1 (2);", 1, 11);
        knots();
    }

    private static void knots() {
        StringBuilder text = new StringBuilder("sort a 1 1");
        for (int k = 1; k < 32; k++) {
            text.append("+1");
        }
        GuestStars stars = checks.told(text + ";");
        checks.due("knots", stars.count(6), 63);
        fault(text + "+(1);", 2, text.length() + 2);
        fault(text + "+;", 1, text.length() + 1);
        fault(text + ";sort b 1 (not 1);", 2, text.length() + 15);
        stars = checks.told(text + ";sort b 1 (((tail)));");
        checks.due("knots", stars.count(6), 64);
        fault(text + ";sort b 1 tail < ", 2, text.length() + 15);
        fault(text + ";sort b 1 tail )", 1, text.length() + 15);
        fault(text + ";sort b 1 tail;sort c 1 tail", 2, text.length() + 24);
        fault(text + ";sort b 1 tail;sort c 1 ;", 1, text.length() + 24);
        fault(text + ";sort b 1 1<2<3;", 2, text.length() + 11);
        String nots = "not ".repeat(63);
        stars = checks.told("rock 0 0;sort a 1 ((((((((" + nots + "tail))))))));");
        checks.due("knots", stars.count(6), 64);
        checks.due("63 times not", stars.sort(0), 0);
        fault("sort a 1 " + nots + "not 1;", 2, 9 + 64 * 4);
    }

    private static void details() {
        GuestStars stars = checks.told("reign r 10 5;gate g 3 4;gate h 5 6;book b;"
            + "guest r 5 7 8 tail worth 2 moves 3 bright 4 lasts 5 near h 6 west south in b;"
            + "guest r 1 1 0;rock 7 9 near g 20 east;");
        int[] first = {14, 7, 8, 1, 6, 2 | 8, 5, 4, 3, 1, 2, 0, 14};
        int[] second = {10, 1, 0, -1, 0, 0, 0, 0, 0, 0, 9, -1, 10};
        int[] third = {7, 0, 0, 0, 20, 4, 0, 0, 0, 0, 9, -1, 9};
        for (int what = 0; what <= 12; what++) {
            checks.due("look(0, " + what + ")", stars.look(0, what), first[what]);
            checks.due("look(1, " + what + ")", stars.look(1, what), second[what]);
            checks.due("look(2, " + what + ")", stars.look(2, what), third[what]);
        }
    }

    private static void fine(String text) {
        GuestStars stars = checks.told(text);
        checks.due("fault of " + text, stars.fault(0), 0);
        checks.due("place of " + text, stars.fault(1), -1);
    }

    private static void fault(String text, int kind, int place) {
        fault(new GuestStars(), text, kind, place);
    }

    private static void fault(GuestStars stars, String text, int kind, int place) {
        checks.due("text of " + text, Checks.tell(stars, text), -1);
        checks.due("fault of " + text, stars.fault(0), kind);
        checks.due("place of " + text, stars.fault(1), place);
    }
}
