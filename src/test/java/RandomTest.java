import java.util.Random;

/** All promises against the oracle: many texts from fixed seeds, some of them spoilt, and every call on each. */
public final class RandomTest {
    private static final Checks checks = new Checks();
    private static final String[] SIDES = {"north", "south", "east", "west", "north east", "south west", "west north",
        "east south"};
    private static final String[] SIGNS = {"+", "-", "*", "/", "<", "<=", "=", "<>", ">=", ">", " and ", " or "};
    private static final String[] NAMES = {"lasts", "bright", "moves", "tail", "inches", "month"};
    private static final String[] SPOILS = {"", ";", "(", ")", "<", "=", "not ", "tail ", "x ", "99999 ", "0 ", "1 ",
        "north ", "reign ", "guest ", "$", "abcdefg ", "near ", "or ", "+", "plate ", "a ", "from ", "turn "};

    public static void main(String[] args) {
        Random random = new Random(20261118);
        GuestStars kept = new GuestStars();
        int keptCalls = 0;
        int fine = 0;
        for (int run = 0; run < 1600; run++) {
            String text = makeText(random);
            if (run % 2 == 1) {
                text = spoil(random, text);
            }
            if (text.length() > 800) {
                continue;
            }
            // An object may be told several texts: what the one ahead left must not show.
            if (keptCalls++ % 4 == 0) {
                kept = new GuestStars();
            }
            fine += compare(random, kept, text) ? 1 : 0;
        }
        checks.due("enough texts without a fault", fine > 500, true);
        checks.finish("RandomTest");
    }

    // ---- texts

    private static String makeText(Random random) {
        StringBuilder text = new StringBuilder();
        if (random.nextInt(2) == 0) {
            text.append("turn ").append(random.nextInt(60)).append(';');
        }
        if (random.nextInt(2) == 0) {
            text.append("limit ").append(random.nextInt(3) == 0 ? random.nextInt(1000) : random.nextInt(60)).append(';');
        }
        if (random.nextInt(2) == 0) {
            text.append("price ").append(random.nextInt(12)).append(';');
        }
        if (random.nextInt(3) > 0) {
            text.append("blur ").append(random.nextInt(4) == 0 ? random.nextInt(100) : random.nextInt(6)).append(';');
        }
        int base = random.nextInt(1850);
        int reigns = 1 + random.nextInt(2);
        for (int k = 0; k < reigns; k++) {
            text.append("reign r").append((char) ('a' + k)).append(' ').append(base + random.nextInt(2)).append(' ')
                .append(2 + random.nextInt(30)).append(';');
        }
        int gates = 1 + random.nextInt(2);
        int gateX = random.nextInt(120);
        int gateY = random.nextInt(60);
        for (int k = 0; k < gates; k++) {
            text.append("gate g").append((char) ('a' + k)).append(' ').append((gateX + random.nextInt(4)) % 120)
                .append(' ').append(Math.min(59, gateY + random.nextInt(3))).append(';');
        }
        int books = random.nextInt(4);
        for (int k = 0; k < books; k++) {
            text.append("book ").append((char) ('a' + k));
            if (k > 0 && random.nextInt(4) > 0) {
                text.append(" from ").append((char) ('a' + random.nextInt(k)));
            }
            text.append(';');
        }
        int shape = random.nextInt(3);
        int guests = shape == 0 ? random.nextInt(13) : random.nextInt(7);
        int clouds = shape == 1 ? random.nextInt(11) : random.nextInt(5);
        for (int k = 0; k < guests; k++) {
            addGuest(random, text, base, reigns, gates, books);
        }
        for (int k = 0; k < clouds; k++) {
            addCloud(random, text, base, gateX, gateY);
        }
        int sorts = random.nextInt(4);
        for (int k = 0; k < sorts; k++) {
            text.append("sort ").append((char) ('a' + k)).append(' ').append(1 + random.nextInt(99)).append(' ');
            addRule(random, text, 3);
            text.append(';');
        }
        int watches = random.nextInt(4);
        for (int k = 0; k < watches; k++) {
            int first = random.nextInt(2) == 0 ? random.nextInt(2000) : base + random.nextInt(3);
            text.append("watch ").append(first).append(' ')
                .append(Math.min(1999, first + random.nextInt(random.nextInt(2) == 0 ? 10 : 1000))).append(' ')
                .append(1 + random.nextInt(10)).append(';');
        }
        return text.toString();
    }

    private static void addGuest(Random random, StringBuilder text, int base, int reigns, int gates, int books) {
        if (random.nextInt(7) == 0) {
            int first = Math.max(0, base - random.nextInt(40));
            text.append("rock ").append(first).append(' ').append(Math.min(1999, first + random.nextInt(60)));
        } else {
            text.append("guest r").append((char) ('a' + random.nextInt(reigns))).append(' ')
                .append(1 + random.nextInt(2)).append(' ').append(1 + random.nextInt(random.nextInt(4) > 0 ? 1 : 12))
                .append(' ').append(random.nextInt(random.nextInt(4) > 0 ? 12 : 60));
        }
        boolean nearLast = random.nextBoolean();
        String near = random.nextInt(5) == 0 ? "" : " near g" + (char) ('a' + random.nextInt(gates)) + " "
            + (1 + random.nextInt(random.nextInt(3) == 0 ? 20 : 4)) + " " + SIDES[random.nextInt(SIDES.length)];
        text.append(nearLast ? "" : near);
        if (books > 0 && random.nextInt(4) > 0) {
            text.append(" in ").append((char) ('a' + random.nextInt(books)));
        }
        if (random.nextInt(3) == 0) {
            text.append(" lasts ").append(1 + random.nextInt(999));
        }
        if (random.nextInt(3) == 0) {
            text.append(" bright ").append(random.nextInt(21));
        }
        if (random.nextInt(3) == 0) {
            text.append(" moves ").append(random.nextInt(100));
        }
        if (random.nextInt(3) == 0) {
            text.append(" worth ").append(1 + random.nextInt(9));
        }
        if (random.nextInt(3) == 0) {
            text.append(" tail");
        }
        text.append(nearLast ? near : "").append(';');
    }

    private static void addCloud(Random random, StringBuilder text, int base, int gateX, int gateY) {
        int x = random.nextInt(3) == 0 ? random.nextInt(120) : (gateX + 115 + random.nextInt(11)) % 120;
        int y = random.nextInt(3) == 0 ? random.nextInt(60) : Math.max(0, Math.min(59, gateY - 5 + random.nextInt(11)));
        int size;
        int more;
        int first = random.nextInt(4) == 0 ? random.nextInt(2950) : 1900;
        int years = random.nextInt(4) == 0 ? 1 + random.nextInt(40) : 40;
        if (random.nextInt(4) == 0) {
            size = 1 + random.nextInt(random.nextInt(2) == 0 ? 9990 : 8);
            more = 1 + random.nextInt(Math.min(9999 - size, 40));
        } else {
            more = 10 + random.nextInt(20);
            size = 1 + Math.max(0, (1900 - base) * more / 40 - random.nextInt(10));
        }
        text.append("cloud ").append(x).append(' ').append(y).append(" plate ").append(first).append(' ').append(size)
            .append(" plate ").append(first + years).append(' ').append(Math.min(9999, size + more));
        if (random.nextInt(3) == 0) {
            text.append(" slow ").append(1 + random.nextInt(10));
        }
        if (random.nextInt(3) == 0) {
            text.append(" tick ").append(1 + random.nextInt(9999)).append(' ').append(1 + random.nextInt(
                random.nextInt(2) == 0 ? 9999 : 50));
        }
        text.append(';');
    }

    private static void addRule(Random random, StringBuilder text, int depth) {
        int kind = random.nextInt(depth > 0 ? 6 : 2);
        if (kind == 0) {
            text.append(random.nextInt(3) == 0 ? random.nextInt(10000) : random.nextInt(5));
        } else if (kind == 1) {
            text.append(NAMES[random.nextInt(NAMES.length)]);
        } else if (kind == 2) {
            text.append('(').append(random.nextInt(3) == 0 ? "not " : "");
            addRule(random, text, depth - 1);
            text.append(')');
        } else {
            boolean wrapped = random.nextInt(3) > 0;
            text.append(random.nextInt(8) == 0 ? "not " : "").append(wrapped ? "(" : "");
            addRule(random, text, depth - 1);
            text.append(wrapped ? ")" : "").append(SIGNS[random.nextInt(SIGNS.length)]).append(wrapped ? "(" : "");
            addRule(random, text, depth - 1);
            text.append(wrapped ? ")" : "");
        }
    }

    private static String spoil(Random random, String text) {
        int from = random.nextInt(text.length() + 1);
        int to = Math.min(text.length(), from + random.nextInt(5));
        return text.substring(0, from) + SPOILS[random.nextInt(SPOILS.length)] + text.substring(to);
    }

    // ---- every call

    private static boolean compare(Random random, GuestStars stars, String text) {
        Oracle oracle = new Oracle(text);
        int fault = 0;
        int place = -1;
        try {
            oracle.read();
        } catch (Oracle.Fault found) {
            fault = found.kind;
            place = found.place;
        }
        checks.due("text of " + text, Checks.tell(stars, text), fault == 0 ? oracle.lines : -1);
        checks.due("fault of " + text, stars.fault(0), fault);
        checks.due("place of " + text, stars.fault(1), place);
        if (fault != 0) {
            return false;
        }
        counts(stars, oracle);
        for (int g = 0; g < oracle.stars.size(); g++) {
            guest(stars, oracle, g, text);
        }
        clouds(random, stars, oracle, text);
        together(random, stars, oracle, text);
        for (int g = 0; g < oracle.stars.size(); g++) {
            if (random.nextInt(3) == 0) {
                checks.due("doubt", stars.doubt(g, true), true);
                oracle.doubted[g] = true;
            }
        }
        if (random.nextBoolean()) {
            oracle.known = random.nextInt(oracle.stars.size() + 1);
            checks.due("known", stars.known(oracle.known), true);
        }
        together(random, stars, oracle, text);
        return true;
    }

    private static void counts(GuestStars stars, Oracle oracle) {
        int[] want = {oracle.reigns.size(), oracle.gates.size(), oracle.stars.size(), oracle.nebulas.size(),
            oracle.sorts.size(), oracle.watches.size(), oracle.knots, oracle.turn, oracle.price, oracle.limit,
            oracle.blur, oracle.books.size(), oracle.stars.size()};
        for (int what = 0; what < want.length; what++) {
            checks.due("count(" + what + ")", stars.count(what), want[what]);
        }
        for (int b = 0; b < oracle.books.size(); b++) {
            checks.due("named", stars.named(3, Checks.letters(oracle.books.get(b))), b);
            for (int c = 0; c < oracle.books.size(); c++) {
                checks.due("from", stars.from(b, c), oracle.from(b, c) ? 1 : 0);
            }
        }
    }

    private static void guest(GuestStars stars, Oracle oracle, int g, String text) {
        Oracle.Star star = oracle.stars.get(g);
        int[] look = {star.year, star.month, star.round, star.gate, star.inches, oracle.sideBits(g), star.lasts,
            star.bright, star.moves, star.tail, star.worth, star.book, star.last};
        for (int what = 0; what < look.length; what++) {
            checks.due("look " + text, stars.look(g, what), look[what]);
        }
        checks.due("day " + text, stars.day(g), oracle.day(g));
        checks.due("months " + text, stars.months(g), oracle.months(g));
        java.util.List<Integer> years = oracle.years(g);
        checks.due("years " + text, stars.years(g, -1), years.size());
        for (int k = 0; k <= years.size(); k++) {
            checks.due("years " + text, stars.years(g, k), k < years.size() ? years.get(k) : -1);
        }
        for (int what = 0; what < 4; what++) {
            checks.due("mend " + text, stars.mend(g, what), oracle.mend(g, what));
            checks.due("place x " + text, stars.place(g, what, 0), oracle.place(g, what, 0));
            checks.due("place y " + text, stars.place(g, what, 1), oracle.place(g, what, 1));
        }
        checks.due("sort " + text, stars.sort(g), oracle.sort(g));
        for (int s = 0; s < oracle.sorts.size(); s++) {
            checks.due("odds above " + text, stars.odds(g, s, 0), oracle.odds(g, s, 0));
            checks.due("odds below " + text, stars.odds(g, s, 1), oracle.odds(g, s, 1));
        }
        checks.due("hidden " + text, stars.hidden(g), oracle.hidden(g));
        for (int h = 0; h < oracle.stars.size(); h++) {
            checks.due("one " + text, stars.one(g, h), g == h ? -1 : oracle.one(g, h) ? 1 : 0);
            checks.due("slips " + text, stars.slips(g, h), g == h ? -1 : oracle.slips(g, h));
        }
    }

    private static void clouds(Random random, GuestStars stars, Oracle oracle, String text) {
        for (int c = 0; c < oracle.nebulas.size(); c++) {
            for (int what = 0; what <= 6; what++) {
                checks.due("born " + what + " " + text, stars.born(c, what), oracle.born(c, what));
            }
            checks.due("untold above " + text, stars.untold(c, 0), oracle.untold(c, 0));
            checks.due("untold below " + text, stars.untold(c, 1), oracle.untold(c, 1));
            for (int g = 0; g < oracle.stars.size(); g++) {
                checks.due("toll " + text, stars.toll(g, c), oracle.toll(g, c));
                checks.due("reading " + text, stars.reading(g, c), oracle.placeToll(g, c)[1]);
            }
        }
        for (int k = 0; k < 3; k++) {
            int year = 1900 + random.nextInt(1100);
            checks.due("next " + text, stars.next(year, 0), oracle.next(year, 0));
            checks.due("next by " + text, stars.next(year, 1), oracle.next(year, 1));
            int seed = random.nextInt(Integer.MAX_VALUE);
            int many = 1 + random.nextInt(60);
            int d = random.nextInt(20);
            checks.due("draws " + text, stars.draws(seed, many, d), oracle.draws(seed, many, d));
            int x = random.nextInt(120);
            checks.due("seen", stars.seen(x), oracle.seen(x));
            int day = random.nextInt(708000);
            checks.due("sun", stars.sun(day), Oracle.sun(day));
            checks.due("round", stars.round(day), (day + oracle.turn) % 60);
            int share = random.nextInt(2000);
            checks.due("share", stars.share(share), oracle.share(share));
        }
        int d = random.nextInt(61);
        checks.due("chance above " + text, stars.chance(d, 0), oracle.chance(d, 0));
        checks.due("chance below " + text, stars.chance(d, 1), oracle.chance(d, 1));
    }

    private static void together(Random random, GuestStars stars, Oracle oracle, String text) {
        int[] pairs = oracle.pairs();
        int count = 0;
        int toll = 0;
        for (int g = 0; g < pairs.length; g++) {
            checks.due("pair " + text, stars.pair(g), pairs[g]);
            count += pairs[g] >= 0 ? 1 : 0;
            toll += pairs[g] >= 0 ? oracle.toll(g, pairs[g]) : 0;
            checks.due("event " + text, stars.event(g), oracle.event(g));
            checks.due("copied " + text, stars.copied(g), oracle.copied(g));
            checks.due("worth above " + text, stars.worth(g, 0), oracle.worth(g, 0));
            checks.due("worth below " + text, stars.worth(g, 1), oracle.worth(g, 1));
        }
        checks.due("pairs " + text, stars.pairs(0), count);
        checks.due("pairs' toll " + text, stars.pairs(1), toll);
        checks.due("events " + text, stars.events(), oracle.events());
        for (int c = 0; c < oracle.nebulas.size(); c++) {
            checks.due("said " + text, stars.said(c), oracle.said(c));
        }
        for (int sort = -1; sort < oracle.sorts.size(); sort++) {
            int a = random.nextInt(2000);
            int b = a + random.nextInt(2000 - a);
            checks.due("many above " + text, stars.many(sort, a, b, 0), oracle.many(sort, a, b, 0));
            checks.due("many below " + text, stars.many(sort, a, b, 1), oracle.many(sort, a, b, 1));
            checks.due("many above " + text, stars.many(sort, 0, 1999, 0), oracle.many(sort, 0, 1999, 0));
            checks.due("many below " + text, stars.many(sort, 0, 1999, 1), oracle.many(sort, 0, 1999, 1));
        }
        int seed = random.nextInt(Integer.MAX_VALUE);
        int many = 1 + random.nextInt(20);
        checks.due("luck " + text, stars.luck(seed, many), oracle.luck(seed, many));
    }
}
