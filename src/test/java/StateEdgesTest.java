/** What a call leaves as it was, by all that can be asked: texts ahead, faults, refused calls, and a full text's last ones. */
public final class StateEdgesTest {
    private static final Checks checks = new Checks();
    private static final Answers answers = new Answers();
    private static final String SOME = "turn 10;reign han 100 20;gate well 10 20;gate b 118 58;book a;book b from a;"
        + "guest han 3 5 20 in a near well 4 south east lasts 600 bright 9;guest han 3 5 22 in b near well 3 south east lasts 60;"
        + "rock 1000 1010 near b 2 north worth 3;guest han 3 6 20 near well 4 south west tail;"
        + "cloud 14 16 plate 1900 899 plate 1950 924;cloud 3 59 plate 1900 650 plate 1950 675 slow 9 tick 100 4;"
        + "sort star 10 lasts > 100 and not tail;sort c 20 tail + moves;watch 90 700 6;";
    /** All guests with details, many of them one, and clouds that all can go together with. */
    private static final String GUESTS = "limit 999;price 1;blur 3;turn 7;reign r 95 60;gate g 9 9;book a;book b from a;book c from b;"
        + guests() + "cloud 9 9 plate 1900 900 plate 1950 925;cloud 8 8 plate 1900 900 plate 1950 925 slow 7 tick 5 5;";
    /** All clouds unlike, and rules that use up the knots. */
    private static final String CLOUDS = "limit 40;blur 1;price 2;turn 59;reign q 100 9;gate j 5 5;guest q 1 1 1 near j 1 north tail;"
        + "rock 99 120 near j 2 east moves 9;" + clouds() + "sort a 9 tail+moves;sort f 8 1/tail;sort g 7 1" + "+1".repeat(27)
        + ";watch 0 1999 3;watch 100 110 9;";

    public static void main(String[] args) {
        fullOfAll();
        textsAhead();
        faultsLeaveAll();
        refusedTextsLeaveAll();
        refusedCallsLeaveAll();
        questionsLeaveAll();
        doubtsAndKnownGoBack();
        checks.finish("StateEdgesTest");
    }

    private static String guests() {
        StringBuilder text = new StringBuilder();
        for (int k = 0; k < 12; k++) {
            text.append(k == 5 ? "rock 90 99" : "guest r " + (1 + k % 3) + " 5 " + k).append(" in ").append((char) ('a' + k % 3))
                .append(" near g ").append(1 + k % 4).append(k % 2 == 0 ? " east" : " north").append(k % 3 == 0 ? " tail" : " moves 5").append(';');
        }
        return text.toString();
    }

    private static String clouds() {
        StringBuilder text = new StringBuilder();
        for (int k = 0; k < 10; k++) {
            text.append("cloud ").append(5 + k).append(" 6plate ").append(1900 + k).append(" 90plate ").append(1950 + k).append(' ')
                .append(95 + k % 3).append(k % 2 == 0 ? "slow 9;" : "tick 9 7;");
        }
        return text.toString();
    }

    private static GuestStars told(String... texts) {
        GuestStars stars = new GuestStars();
        for (String text : texts) {
            Checks.tell(stars, text);
        }
        return stars;
    }

    private static void same(String what, Answers.Way way, Answers.Way other) {
        long[] want = answers.of(other);
        long[] got = answers.of(way);
        for (int k = 0; k < want.length; k++) {
            checks.due(what + ": " + answers.name(k), got[k], want[k]);
        }
    }

    private static void fullOfAll() {
        checks.sentence("at most 8, 10, 8, 12, 10, 6, 6: all calls on what is full");
        for (String text : new String[] {TapeEdgesTest.FULL, GUESTS, CLOUDS}) {
            GuestStars stars = checks.told(text);
            checks.due("full", stars.count(2) == 12 || stars.count(3) == 10, true);
            same("asked twice", () -> told(text), () -> told(text));
        }
    }

    private static void textsAhead() {
        checks.sentence("3. are the TEXT: nothing of the texts ahead shows");
        String[] texts = {"", SOME, GUESTS, CLOUDS, TapeEdgesTest.FULL, "rock 5 9;", "cloud 9 9 plate 1000 10 plate 1010 11;"};
        String[][] histories = {{GUESTS, CLOUDS}, {CLOUDS, GUESTS}, {TapeEdgesTest.FULL, TapeEdgesTest.FULL}, {CLOUDS, CLOUDS, GUESTS},
            {GUESTS, GUESTS}, {SOME, "", CLOUDS, "?"}};
        for (String text : texts) {
            for (String[] history : histories) {
                same("behind other texts " + text, () -> {
                    GuestStars stars = told(history);
                    stars.pairs(0);
                    stars.events();
                    Checks.tell(stars, text);
                    return stars;
                }, () -> told(text));
            }
        }
    }

    private static GuestStars doubtful() {
        GuestStars stars = told(SOME);
        stars.doubt(1, true);
        stars.known(3);
        return stars;
    }

    private static void faultsLeaveAll() {
        checks.sentence("3. NONE with a FAULT, all stays");
        String[] spoilt = {"?", GUESTS + "?", CLOUDS + "?", CLOUDS.substring(0, CLOUDS.length() - 1), GUESTS + "turn 1;", "sort a 1 1+(2*(3",
            "sort a 1 ((1 or", "sort a 1 not not 1<2<3;", TapeEdgesTest.FULL + "rock 1 1;", "guest han 1 1 1;"};
        for (String text : spoilt) {
            same("a fault in " + text, () -> {
                GuestStars stars = doubtful();
                Checks.tell(stars, text);
                return stars;
            }, StateEdgesTest::doubtful);
            same("a fault ahead in " + text, () -> told(text, SOME), () -> told(SOME));
            same("a fault ahead in " + text, () -> told(text, text, CLOUDS), () -> told(CLOUDS));
        }
    }

    private static void refusedTextsLeaveAll() {
        checks.sentence("3. -2, and the TAPE stays; 2. NONE, and none come");
        same("refused", () -> {
            GuestStars stars = doubtful();
            Checks.feed(stars, GUESTS);
            stars.text(-1);
            stars.text(801);
            for (int k = 0; k < 45; k++) {
                stars.feed(0, 0, 0, 0, 0);
            }
            stars.text(Integer.MIN_VALUE);
            return stars;
        }, StateEdgesTest::doubtful);
        same("then told", () -> {
            GuestStars stars = doubtful();
            Checks.feed(stars, GUESTS);
            stars.text(-1);
            stars.text(801);
            stars.text(GUESTS.length());
            return stars;
        }, () -> told(GUESTS));
    }

    private static void refusedCallsLeaveAll() {
        checks.sentence("21. false: no such n; 37. false: no such GUEST, it is so");
        same("refused", () -> {
            GuestStars stars = doubtful();
            stars.known(-2);
            stars.known(5);
            stars.doubt(-1, true);
            stars.doubt(4, true);
            stars.doubt(32, true);
            stars.doubt(1, true);
            stars.doubt(0, false);
            stars.doubt(33, false);
            return stars;
        }, StateEdgesTest::doubtful);
    }

    private static void questionsLeaveAll() {
        checks.sentence("what is asked changes nothing");
        same("behind questions", () -> {
            GuestStars stars = doubtful();
            stars.luck(5, 20);
            stars.draws(6, 9, 9);
            stars.pairs(1);
            stars.many(-1, 0, 1999, 0);
            stars.odds(0, 1, 0);
            stars.sort(3);
            stars.next(2999, 0);
            stars.untold(0, 0);
            stars.copied(1);
            return stars;
        }, StateEdgesTest::doubtful);
    }

    private static void doubtsAndKnownGoBack() {
        checks.sentence("37. A GUEST is DOUBTED, or not; 21. KNOWN by n from now on (-1: all)");
        for (String text : new String[] {SOME, GUESTS, CLOUDS, TapeEdgesTest.FULL}) {
            same("there and back", () -> {
                GuestStars stars = told(text);
                stars.doubt(0, true);
                stars.known(1);
                stars.pairs(0);
                stars.events();
                stars.doubt(0, false);
                stars.known(-1);
                return stars;
            }, () -> told(text));
        }
    }
}
