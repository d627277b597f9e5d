/** Promises 20 to 26, 30, 32, 41: tellings that are one, books, copies, worth, how many there must have been. */
public final class EventsTest {
    private static final Checks checks = new Checks();

    public static void main(String[] args) {
        ones();
        events();
        slips();
        books();
        longestChain();
        copies();
        worths();
        many();
        known();
        counts();
        checks.finish("EventsTest");
    }

    private static void ones() {
        // Days 0, 5, 6, 29 and (month 2) 30; month 1 can't have round 59.
        GuestStars stars = checks.told("reign r 0 2;reign s 1 1;gate g 0 5;gate h 119 9;guest r 1 1 0;guest r 1 1 5;guest r 1 1 6;"
            + "guest r 1 1 29;guest r 1 2 30;guest r 1 1 59;guest r 1 2 59;rock 0 0;guest r 2 1 0;guest s 1 1 1;");
        int[][] due = {{0, 1, 1}, {0, 2, 0}, {1, 2, 1}, {3, 4, 1}, {0, 5, 1}, {3, 5, 1}, {4, 5, 0}, {5, 6, 0}, {4, 6, 1},
            {0, 7, 0}, {0, 8, 0}, {8, 9, 1}};
        for (int[] one : due) {
            checks.due("one(" + one[0] + ", " + one[1] + ")", stars.one(one[0], one[1]), one[2]);
            checks.due("one(" + one[1] + ", " + one[0] + ")", stars.one(one[1], one[0]), one[2]);
        }
        checks.due("the same", stars.one(0, 0), -1);
        checks.due("no such", stars.one(0, 10), -1);
        checks.due("no such", stars.one(-1, 0), -1);
        stars.doubt(0, true);
        stars.known(1);
        checks.due("doubted or not, known or not", stars.one(0, 1), 1);
        // Places 1, 4 and 5, and 119 of x; one by another side.
        GuestStars near = checks.told("reign r 0 1;gate g 0 5;guest r 1 1 0 near g 1 east;guest r 1 1 0 near g 4 east;"
            + "guest r 1 1 0 near g 5 east;guest r 1 1 0 near g 1 west;guest r 1 1 0;guest r 1 1 0 near g 4 west;"
            + "guest r 1 1 0 near g 4 north;");
        int[][] places = {{0, 1, 1}, {0, 2, 0}, {1, 2, 1}, {0, 3, 1}, {1, 3, 0}, {4, 2, 1}, {1, 5, 0}, {0, 6, 0}};
        for (int[] one : places) {
            checks.due("near one(" + one[0] + ", " + one[1] + ")", near.one(one[0], one[1]), one[2]);
        }
    }

    private static void events() {
        GuestStars stars = checks.told("reign r 0 1;guest r 1 1 10;guest r 1 1 0;rock 0 0;guest r 1 1 5;guest r 1 5 0;");
        int[] due = {0, 0, 2, 0, 4};
        for (int g = 0; g < 5; g++) {
            checks.due("event(" + g + ")", stars.event(g), due[g]);
        }
        checks.due("events()", stars.events(), 3);
        stars.doubt(3, true);
        checks.due("what joins is doubted", stars.events(), 4);
        checks.due("event(1)", stars.event(1), 1);
        checks.due("event(3)", stars.event(3), -1);
        stars.doubt(3, false);
        stars.known(3);
        checks.due("known by 3", stars.events(), 3);
        checks.due("event(1)", stars.event(1), 1);
        checks.due("event(3)", stars.event(3), -1);
        checks.due("event(5)", stars.event(5), -1);
        checks.due("event(-1)", stars.event(-1), -1);
        stars.known(0);
        checks.due("known by none", stars.events(), 0);
    }

    private static void slips() {
        GuestStars stars = checks.told("reign r 0 9;gate g 0 0;gate h 0 0;book b;"
            + "guest r 1 1 0;guest r 9 2 1 near g 1 north lasts 1 bright 1 moves 1 tail;rock 0 5 in b worth 1;"
            + "guest r 9 2 1 near h 2 south lasts 2 bright 2 moves 2 tail;guest r 5 1 0 in b worth 3;");
        checks.due("all", stars.slips(0, 1), 9);
        checks.due("all back", stars.slips(1, 0), 9);
        checks.due("of a rock: the month", stars.slips(0, 2), 1);
        checks.due("some", stars.slips(1, 3), 6);
        checks.due("neither year, book nor worth", stars.slips(0, 4), 0);
        checks.due("the same", stars.slips(1, 1), -1);
        checks.due("no such", stars.slips(0, 5), -1);
        checks.due("no such", stars.slips(-1, 0), -1);
    }

    private static void books() {
        GuestStars stars = checks.told("book a;book b from a;book c from b;book d;book e from a;");
        String[] due = {"00000", "10000", "11000", "00000", "10000"};
        for (int b = 0; b < 5; b++) {
            for (int c = 0; c < 5; c++) {
                checks.due("from(" + b + ", " + c + ")", stars.from(b, c), due[b].charAt(c) - '0');
            }
            checks.due("no such", stars.from(b, 5), -1);
            checks.due("no such", stars.from(b, -1), -1);
            checks.due("no such", stars.from(5, b), -1);
            checks.due("no such", stars.from(-1, b), -1);
        }
    }

    private static void longestChain() {
        GuestStars stars = checks.told("book a;book b from a;book c from b;book d from c;book e from d;book f from e;"
            + "book g from f;book h from g;");
        checks.due("straight on", stars.from(7, 0), 1);
        checks.due("not back", stars.from(0, 7), 0);
    }

    private static void copies() {
        GuestStars stars = checks.told("reign r 0 1;book a;book b from a;book c from b;book d;"
            + "guest r 1 1 0 in c lasts 1 bright 1;guest r 1 1 0 in a;guest r 1 1 0 in b lasts 1;guest r 1 1 0 in b bright 1;"
            + "guest r 1 1 0 in d lasts 1 bright 1;guest r 1 1 0;guest r 1 5 0 in c;guest r 1 1 0 in a lasts 1 bright 1;");
        int[] due = {7, -1, 1, 1, -1, -1, -1, -1};
        for (int g = 0; g < due.length; g++) {
            checks.due("copied(" + g + ")", stars.copied(g), due[g]);
        }
        stars.doubt(7, true);
        checks.due("of several the least", stars.copied(0), 2);
        stars.doubt(2, true);
        checks.due("the other one", stars.copied(0), 3);
        checks.due("a doubted one", stars.copied(2), -1);
        stars.known(2);
        checks.due("known", stars.copied(0), 1);
        checks.due("no such", stars.copied(8), -1);
        checks.due("no such", stars.copied(-1), -1);
    }

    private static void worths() {
        GuestStars stars = checks.told("reign r 0 1;book a;book b from a;"
            + "guest r 1 1 0 worth 5;guest r 1 1 1 in a worth 6;guest r 1 1 2 in b worth 9;rock 0 0 worth 2;guest r 1 9 0;");
        long[][] due = {{8, 10}, {8, 10}, {8, 10}, {2, 10}, {9, 10}};
        for (int g = 0; g < 5; g++) {
            checks.due("worth " + g, stars.worth(g, 0) * due[g][1], stars.worth(g, 1) * due[g][0]);
        }
        checks.due("in least terms", stars.worth(0, 1), 5);
        stars.doubt(1, true);
        checks.due("no copy any more", stars.worth(0, 0), 19);
        checks.due("no copy any more", stars.worth(2, 1), 20);
        checks.due("in none", stars.worth(1, 0), -1);
        checks.due("in none", stars.worth(1, 1), -1);
        stars.known(3);
        checks.due("not known", stars.worth(3, 0), -1);
        checks.due("no such", stars.worth(5, 0), -1);
        checks.due("no such", stars.worth(-1, 0), -1);
        checks.due("no such what", stars.worth(0, 2), -1);
        checks.due("no such what", stars.worth(0, -1), -1);
        StringBuilder dozen = new StringBuilder("reign r 0 1;");
        for (int g = 0; g < 12; g++) {
            dozen.append("guest r 1 1 0 worth 1;");
        }
        GuestStars most = checks.told(dozen.toString());
        checks.due("twelve", most.worth(0, 0), 1000000000000L - 282429536481L);
        checks.due("twelve", most.worth(0, 1), 1000000000000L);
    }

    private static void many() {
        GuestStars stars = checks.told("reign r 100 50;guest r 1 1 20 tail;guest r 1 1 20 bright 1;guest r 2 1 1 tail;"
            + "guest r 31 1 1 tail;rock 105 105 tail;sort a 1 bright;sort b 1 tail;watch 100 110 5;watch 105 106 10;");
        checks.due("all above", stars.many(-1, 100, 119, 0), 80);
        checks.due("all below", stars.many(-1, 100, 119, 1), 13);
        checks.due("sort b above", stars.many(1, 100, 119, 0), 80);
        checks.due("sort a above", stars.many(0, 100, 119, 0), 40);
        checks.due("sort a below", stars.many(0, 100, 119, 1), 13);
        checks.due("a year", stars.many(-1, 100, 100, 0), 2);
        checks.due("a year", stars.many(-1, 100, 100, 1), 1);
        checks.due("no event", stars.many(-1, 103, 104, 0), 0);
        checks.due("no event", stars.many(-1, 103, 104, 1), 1);
        checks.due("a year without a share", stars.many(-1, 111, 140, 0), 0);
        checks.due("a year without a share", stars.many(-1, 111, 140, 1), 0);
        stars.doubt(1, true);
        checks.due("doubted", stars.many(0, 100, 119, 0), 0);
        stars.known(0);
        checks.due("none known", stars.many(-1, 100, 119, 0), 0);
        checks.due("none known", stars.many(-1, 100, 119, 1), 1);
        checks.due("no such sort", stars.many(2, 100, 119, 0), -1);
        checks.due("no such sort", stars.many(-2, 100, 119, 0), -1);
        checks.due("no such years", stars.many(-1, -1, 119, 0), -1);
        checks.due("no such years", stars.many(-1, 0, 2000, 0), -1);
        checks.due("no such years", stars.many(-1, 5, 4, 0), -1);
        checks.due("no such what", stars.many(-1, 0, 1999, 2), -1);
        checks.due("no such what", stars.many(-1, 0, 1999, -1), -1);
    }

    private static void known() {
        GuestStars stars = checks.told("rock 1 1;rock 2 2;rock 3 3;");
        checks.due("all at first", stars.count(12), 3);
        checks.due("known(4)", stars.known(4), false);
        checks.due("known(-2)", stars.known(-2), false);
        checks.due("so it stays", stars.count(12), 3);
        checks.due("known(0)", stars.known(0), true);
        checks.due("none", stars.count(12), 0);
        checks.due("known(3)", stars.known(3), true);
        checks.due("all", stars.count(12), 3);
        checks.due("known(2)", stars.known(2), true);
        checks.due("event(1)", stars.event(1), 1);
        checks.due("event(2)", stars.event(2), -1);
        checks.due("known(-1)", stars.known(-1), true);
        checks.due("all", stars.count(12), 3);
    }

    private static void counts() {
        GuestStars stars = checks.told("turn 11;price 12;limit 13;blur 14;reign a 0 1;gate a 0 0;gate b 0 0;rock 0 0;rock 0 0;"
            + "rock 0 0;cloud 0 0 plate 1 1 plate 2 2;sort a 1 1+1;watch 0 0 1;watch 0 0 1;book a;book b;book c;book d;");
        int[] due = {1, 2, 3, 1, 1, 2, 3, 11, 12, 13, 14, 4, 3, -1};
        for (int what = 0; what < due.length; what++) {
            checks.due("count(" + what + ")", stars.count(what), due[what]);
        }
        checks.due("count(-1)", stars.count(-1), -1);
    }
}
