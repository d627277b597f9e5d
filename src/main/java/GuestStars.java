import java.util.Arrays;
import java.util.NoSuchElementException;

/** Guest stars told in old books, and the clouds that may be what is left of them. */
public final class GuestStars {
    public static final int NONE = -1;

    private static final int NO_GUEST = -2;
    private static final int NO_TEXT = -2;

    private static final int TAPE_SIZE = 800;
    private static final int FEED_SIZE = 20;
    private static final int MOST_REIGNS = 8;
    private static final int MOST_GATES = 10;
    private static final int MOST_BOOKS = 8;
    private static final int MOST_GUESTS = 12;
    private static final int MOST_CLOUDS = 10;
    private static final int MOST_SORTS = 6;
    private static final int MOST_WATCHES = 6;
    private static final int MOST_KNOTS = 64;
    private static final int MOST_OPEN = 8;
    private static final int MOST_DRAWS = 500;
    private static final int MOST_LUCK = 20;

    private static final int YEARS = 2000;
    private static final int PLATE_YEARS = 3000;
    private static final int YEAR_DAYS = 354;
    private static final int ALL_DAYS = 708000;
    private static final int MONTHS = 12;
    private static final int ROUND_DAYS = 60;
    private static final int WIDTH = 120;
    private static final int HEIGHT = 60;
    private static final int ALL_PLACES = 7200;
    private static final int WIDEST = 60;
    private static final int READINGS = 4;
    private static final int TOLL_WITHOUT_NEAR = 20;
    private static final int OLDEST = 9999;
    private static final int TOP_NUMBER = 9999;
    private static final long TOP_VALUE = 1000000000000L;

    private static final int NORTH_SIDE = 1;
    private static final int SOUTH_SIDE = 2;
    private static final int EAST_SIDE = 4;
    private static final int WEST_SIDE = 8;

    private static final int FAULT_TOKEN = 1;
    private static final int FAULT_MUCH = 2;
    private static final int FAULT_TWICE = 3;
    private static final int FAULT_UNTOLD = 4;

    // Kinds of tokens: first the words of the language, each numbered by where it stands in WORDS.
    private static final String WORDS = "reign gate book from guest rock in near lasts bright moves worth tail cloud plate slow tick sort watch turn price limit blur north south east west or and not inches month ";
    private static final int REIGN = 0;
    private static final int GATE = 1;
    private static final int BOOK = 2;
    private static final int FROM = 3;
    private static final int GUEST = 4;
    private static final int ROCK = 5;
    private static final int IN = 6;
    private static final int NEAR = 7;
    private static final int LASTS = 8;
    private static final int BRIGHT = 9;
    private static final int MOVES = 10;
    private static final int WORTH = 11;
    private static final int TAIL = 12;
    private static final int CLOUD = 13;
    private static final int PLATE = 14;
    private static final int SLOW = 15;
    private static final int TICK = 16;
    private static final int SORT = 17;
    private static final int WATCH = 18;
    private static final int TURN = 19;
    private static final int PRICE = 20;
    private static final int LIMIT = 21;
    private static final int BLUR = 22;
    private static final int NORTH = 23;
    private static final int SOUTH = 24;
    private static final int EAST = 25;
    private static final int WEST = 26;
    private static final int OR = 27;
    private static final int AND = 28;
    private static final int NOT = 29;
    private static final int INCHES = 30;
    private static final int MONTH = 31;
    private static final int LANGUAGE_WORDS = 32;
    private static final int OTHER_WORD = 32;
    private static final int NUMBER = 33;
    private static final int END = 34;
    private static final int NO_TOKEN = 35;
    private static final int SEMICOLON = 36;
    private static final int OPEN = 37;
    private static final int CLOSE = 38;
    private static final int BELOW = 39;
    private static final int AT_MOST = 40;
    private static final int EQUAL = 41;
    private static final int UNLIKE = 42;
    private static final int AT_LEAST = 43;
    private static final int ABOVE = 44;
    private static final int PLUS = 45;
    private static final int MINUS = 46;
    private static final int TIMES = 47;
    private static final int OVER = 48;
    private static final int DENIAL_RANK = 3;
    private static final int COMPARISON_RANK = 4;

    private final Reader reader = new Reader();
    private final Pairing pairing = new Pairing();
    private final Events joined = new Events();
    private Tale told = new Tale();
    private int knownGuests;
    private int doubtedGuests;
    private boolean pairingStale = true;
    private boolean joinedStale = true;
    private int dice;

    public GuestStars() {
    }

    public int feed(int a, int b, int c, int d, int e) {
        Tape tape = reader.tape;
        if (tape.size + FEED_SIZE > TAPE_SIZE) {
            return NONE;
        }
        tape.put(a);
        tape.put(b);
        tape.put(c);
        tape.put(d);
        tape.put(e);
        return tape.size;
    }

    public int text(int n) {
        if (n < 0 || n > reader.tape.size) {
            return NO_TEXT;
        }
        reader.tape.size = 0;
        int lines = NONE;
        try {
            lines = reader.readLines(n);
        } catch (IllegalArgumentException fault) {
            return NONE;
        }
        told = reader.giveFor(told);
        knownGuests = told.guestCount;
        doubtedGuests = 0;
        forgetReckoned();
        return lines;
    }

    public int fault(int what) {
        return what == 0 ? reader.faultKind : what == 1 ? reader.faultPlace : NONE;
    }

    public int named(int what, int letters) {
        switch (what) {
            case 0:
                return told.reigns.find(letters);
            case 1:
                return told.gates.find(letters);
            case 2:
                return told.sorts.find(letters);
            case 3:
                return told.books.find(letters);
            default:
                return NONE;
        }
    }

    public int look(int guest, int what) throws IndexOutOfBoundsException, NoSuchElementException {
        if (!isGuest(guest)) {
            throw new IndexOutOfBoundsException("no such guest");
        }
        if (what < 0 || what > 12) {
            throw new NoSuchElementException("no such what");
        }
        return told.guests[guest].detail(what);
    }

    public int round(int day) {
        return isDay(day) ? told.roundOf(day) : NONE;
    }

    public int day(int guest) {
        return isGuest(guest) ? told.dayOf(told.guests[guest]) : NO_GUEST;
    }

    public int months(int guest) {
        return isGuest(guest) ? told.monthsWithRound(told.guests[guest]) : NONE;
    }

    public int years(int guest, int k) {
        if (!isGuest(guest) || k < NONE) {
            return NONE;
        }
        return told.yearsWithRound(told.guests[guest], k);
    }

    public int place(int guest, int reading, int what) {
        if (!isGuest(guest) || reading < 0 || reading >= READINGS || !isPart(what)) {
            return NONE;
        }
        Guest one = told.guests[guest];
        return what == 0 ? told.placeX(one, reading) : told.placeY(one, reading);
    }

    public int sort(int guest) {
        return isGuest(guest) ? told.sortOf(told.guests[guest]) : NO_GUEST;
    }

    public int mend(int guest, int what) {
        if (!isGuest(guest) || what < 0 || what > 3) {
            return NONE;
        }
        Guest one = told.guests[guest];
        if (one.isRock() || told.dayOf(one) != NONE) {
            return 0;
        }
        int byMonths = Integer.bitCount(told.monthsWithRound(one));
        int byYears = told.yearsWithRound(one, NONE);
        int byRounds = Sky.monthLength(one.month);
        switch (what) {
            case 1:
                return byMonths;
            case 2:
                return byYears;
            case 3:
                return byRounds;
            default:
                return byMonths + byYears + byRounds;
        }
    }

    public long odds(int guest, int sort, int what) {
        if (!isGuest(guest) || !isSort(sort) || !isPart(what)) {
            return NONE;
        }
        Guest one = told.guests[guest];
        long sum = 0;
        for (int k = 0; k < told.sorts.size; k++) {
            sum += told.sortWeight(one, k);
        }
        return Sky.leastTerms(told.sortWeight(one, sort), sum, what);
    }

    public int born(int cloud, int what) {
        if (!isCloud(cloud)) {
            return Integer.MIN_VALUE;
        }
        Cloud one = told.clouds[cloud];
        switch (what) {
            case 0:
                return Cloud.ageOf(one.firstSize, one.secondSize, one.secondYear - one.firstYear);
            case 1:
                return one.bornFrom;
            case 2:
                return one.bornTo;
            case 3:
                return one.bornByTicks();
            case 4:
                return one.x;
            case 5:
                return one.y;
            default:
                return Integer.MIN_VALUE;
        }
    }

    public int toll(int guest, int cloud) {
        if (!isGuest(guest) || !isCloud(cloud)) {
            return NONE;
        }
        return told.tollOf(told.guests[guest], told.clouds[cloud]);
    }

    public int reading(int guest, int cloud) {
        if (!isGuest(guest) || !isCloud(cloud)) {
            return NONE;
        }
        return told.bestReading(told.guests[guest], told.clouds[cloud]);
    }

    public int pairs(int what) {
        if (!isPart(what)) {
            return NONE;
        }
        reckonPairs();
        return what == 0 ? pairing.pairCount : pairing.tollInAll;
    }

    public int pair(int guest) {
        if (!isGuest(guest)) {
            return NONE;
        }
        reckonPairs();
        return pairing.cloudOf[guest];
    }

    public int one(int a, int b) {
        if (!isGuest(a) || !isGuest(b) || a == b) {
            return NONE;
        }
        return told.areOne(told.guests[a], told.guests[b]) ? 1 : 0;
    }

    public boolean known(int n) {
        if (n < NONE || n > told.guestCount) {
            return false;
        }
        knownGuests = n == NONE ? told.guestCount : n;
        forgetReckoned();
        return true;
    }

    public int event(int guest) {
        if (!isGuest(guest)) {
            return NONE;
        }
        reckonEvents();
        return joined.least[guest];
    }

    public int slips(int a, int b) {
        if (!isGuest(a) || !isGuest(b) || a == b) {
            return NONE;
        }
        return told.guests[a].countUnlike(told.guests[b]);
    }

    public int copied(int guest) {
        if (!isGuest(guest)) {
            return NONE;
        }
        reckonEvents();
        return joined.sourceOf(told, guest);
    }

    public int from(int book, int other) {
        if (!isBook(book) || !isBook(other)) {
            return NONE;
        }
        return told.isCopyOf(book, other) ? 1 : 0;
    }

    public long worth(int guest, int what) {
        if (!isGuest(guest) || !isPart(what)) {
            return NONE;
        }
        reckonEvents();
        if (joined.least[guest] == NONE) {
            return NONE;
        }
        return joined.worthOf(told, joined.least[guest], what);
    }

    public int said(int cloud) {
        if (!isCloud(cloud)) {
            return NONE;
        }
        reckonPairs();
        int able = pairing.guestsFor(cloud);
        if (able == 0) {
            return 0;
        }
        int guest = pairing.guestOf(cloud);
        if (guest == NONE) {
            return 1;
        }
        if (able > 1) {
            return 2;
        }
        return pairing.cloudsFor(guest) > 1 ? 3 : 4;
    }

    public long untold(int cloud, int what) {
        if (!isCloud(cloud) || !isPart(what)) {
            return NONE;
        }
        Cloud one = told.clouds[cloud];
        int first = Math.max(0, one.bornFrom);
        int last = Math.min(YEARS - 1, one.bornTo);
        int seenMonths = Integer.bitCount(Sky.monthsSeen(one.x));
        long above = 0;
        long below = 0;
        for (int year = first; year <= last; year++) {
            above += 120 - told.watches.shareOf(year) * seenMonths;
            below += 120;
        }
        return Sky.leastTerms(above, below, what);
    }

    public int next(int year, int what) {
        if (year < 0 || year >= PLATE_YEARS || !isPart(what)) {
            return NONE;
        }
        int best = NONE;
        int most = 0;
        for (int k = 0; k < told.cloudCount; k++) {
            int narrower = told.clouds[k].narrowerBy(year, told.blur);
            if (narrower > most) {
                most = narrower;
                best = k;
            }
        }
        return best == NONE ? NONE : what == 0 ? best : most;
    }

    public int events() {
        reckonEvents();
        return joined.countAll();
    }

    public int share(int year) {
        return isYear(year) ? told.watches.shareOf(year) : NONE;
    }

    public long many(int sort, int a, int b, int what) {
        if (sort != NONE && !isSort(sort) || !isYear(a) || !isYear(b) || a > b || !isPart(what)) {
            return NONE;
        }
        reckonEvents();
        long sum = 0;
        for (int year = a; year <= b; year++) {
            sum += told.watches.shareOf(year);
        }
        int found = 0;
        for (int k = 0; k < told.guestCount; k++) {
            if (joined.least[k] == k && joined.hasSuch(told, k, sort, a, b)) {
                found++;
            }
        }
        return Sky.leastTerms(found * 10L * (b - a + 1), sum, what);
    }

    public int chance(int d, int what) {
        if (!isWidth(d) || !isPart(what)) {
            return NONE;
        }
        int near = 0;
        for (int k = 0; k < told.cloudCount; k++) {
            near += told.clouds[k].countPlaces(d);
        }
        return (int) Sky.leastTerms(near, ALL_PLACES, what);
    }

    public int sun(int day) {
        return isDay(day) ? Sky.sunAt(day) : NONE;
    }

    public int hidden(int guest) {
        if (!isGuest(guest)) {
            return NONE;
        }
        Guest one = told.guests[guest];
        int day = told.dayOf(one);
        if (one.gate == NONE || day == NONE) {
            return NONE;
        }
        return Sky.hides(day, told.placeX(one, 0)) ? 1 : 0;
    }

    public int seen(int x) {
        return x < 0 || x >= WIDTH ? NONE : Sky.monthsSeen(x);
    }

    public boolean doubt(int guest, boolean on) {
        if (!isGuest(guest) || isDoubted(guest) == on) {
            return false;
        }
        doubtedGuests ^= 1 << guest;
        forgetReckoned();
        return true;
    }

    public int doubted() {
        return doubtedGuests;
    }

    public int draws(int seed, int many, int d) {
        if (seed < 0 || many < 1 || many > MOST_DRAWS || !isWidth(d)) {
            return NONE;
        }
        dice = seed;
        int near = 0;
        for (int k = 0; k < many; k++) {
            int x = roll() % WIDTH;
            int y = roll() % HEIGHT;
            if (told.hasCloudNear(x, y, d)) {
                near++;
            }
        }
        return near;
    }

    public int luck(int seed, int many) {
        if (seed < 0 || many < 1 || many > MOST_LUCK) {
            return NONE;
        }
        reckonPairs();
        dice = seed;
        int lucky = 0;
        for (int k = 0; k < many; k++) {
            drawPlaces();
            if (pairing.countDrawn() >= pairing.pairCount) {
                lucky++;
            }
        }
        return lucky;
    }

    public int count(int what) {
        switch (what) {
            case 0:
                return told.reigns.size;
            case 1:
                return told.gates.size;
            case 2:
                return told.guestCount;
            case 3:
                return told.cloudCount;
            case 4:
                return told.sorts.size;
            case 5:
                return told.watches.size;
            case 6:
                return told.rules.size;
            case 7:
                return told.turn;
            case 8:
                return told.price;
            case 9:
                return told.limit;
            case 10:
                return told.blur;
            case 11:
                return told.books.size;
            case 12:
                return knownGuests;
            default:
                return NONE;
        }
    }

    private boolean isGuest(int guest) {
        return guest >= 0 && guest < told.guestCount;
    }

    private boolean isCloud(int cloud) {
        return cloud >= 0 && cloud < told.cloudCount;
    }

    private boolean isSort(int sort) {
        return sort >= 0 && sort < told.sorts.size;
    }

    private boolean isBook(int book) {
        return book >= 0 && book < told.books.size;
    }

    private static boolean isDay(int day) {
        return day >= 0 && day < ALL_DAYS;
    }

    private static boolean isYear(int year) {
        return year >= 0 && year < YEARS;
    }

    private static boolean isWidth(int d) {
        return d >= 0 && d <= WIDEST;
    }

    /** Answers of two parts (above and below, x and y, how many and the toll) are asked by 0 or 1. */
    private static boolean isPart(int what) {
        return what == 0 || what == 1;
    }

    private boolean isDoubted(int guest) {
        return (doubtedGuests >> guest & 1) == 1;
    }

    private void forgetReckoned() {
        pairingStale = true;
        joinedStale = true;
    }

    /** The guests (bits) that are known and not doubted. */
    private int trusted() {
        return ((1 << knownGuests) - 1) & ~doubtedGuests;
    }

    // Pairs and events are reckoned once and kept until the text, a doubt or what is known changes.
    private void reckonPairs() {
        if (pairingStale) {
            pairing.reckon(told, trusted());
            pairingStale = false;
        }
    }

    private void reckonEvents() {
        if (joinedStale) {
            joined.reckon(told, trusted());
            joinedStale = false;
        }
    }

    private int roll() {
        // The low 31 bits of an int product are right even where it wraps.
        dice = dice * 1103515245 + 12345 & 0x7fffffff;
        return dice / 65536;
    }

    /** Every guest with a gate takes two numbers, but only the trusted ones may then be paired. */
    private void drawPlaces() {
        int trusted = trusted();
        for (int k = 0; k < told.guestCount; k++) {
            Guest guest = told.guests[k];
            int x = 0;
            int y = 0;
            if (guest.gate != NONE) {
                x = roll() % WIDTH;
                y = roll() % HEIGHT;
            }
            pairing.drawn[k] = (trusted >> k & 1) == 1 ? told.cloudsByPlace(guest, x, y) : 0;
        }
    }

    /** Days, places and fractions: what depends on no text. */
    private static final class Sky {
        private Sky() {
        }

        static int monthBegin(int year, int month) {
            return YEAR_DAYS * year + 29 * (month - 1) + month / 2;
        }

        static int monthLength(int month) {
            return month % 2 == 1 ? 30 : 29;
        }

        static int apart(int x, int y, int otherX, int otherY) {
            int across = Math.abs(x - otherX);
            int shorter = Math.min(across, WIDTH - across);
            return Math.max(shorter, Math.abs(y - otherY));
        }

        static int sunAt(int day) {
            return day % YEAR_DAYS * WIDTH / YEAR_DAYS;
        }

        static boolean hides(int day, int x) {
            return apart(x, 0, sunAt(day), 0) <= 10;
        }

        static int monthsSeen(int x) {
            int bits = 0;
            for (int month = 1; month <= MONTHS; month++) {
                if (!hides(monthBegin(0, month) + 14, x)) {
                    bits |= 1 << (month - 1);
                }
            }
            return bits;
        }

        /** The part above (0) or below (1) of a fraction in least terms; 0 by 0 where the lower part is 0. */
        static long leastTerms(long above, long below, int what) {
            if (below == 0) {
                return 0;
            }
            long divisor = below;
            long rest = above;
            // Euclid takes fewer than 100 steps with any longs; the divisor is never 0, as below isn't.
            for (int k = 0; k < 100 && rest != 0; k++) {
                long smaller = divisor % rest;
                divisor = rest;
                rest = smaller;
            }
            return (what == 0 ? above : below) / divisor;
        }
    }

    /** One telling of a star; or a rock, which has a span of years and no reign. */
    private static final class Guest {
        int reign;
        int year;
        int lastYear;
        int month;
        int round;
        int gate;
        int inches;
        int sides;
        /** 1 to the east, -1 to the west, 0 if neither was told. */
        int east;
        /** 1 to the north, -1 to the south, 0 if neither was told. */
        int north;
        int lasts;
        int bright;
        int moves;
        int tail;
        int worth;
        int book;

        void clear() {
            reign = NONE;
            year = 0;
            lastYear = 0;
            month = 0;
            round = 0;
            gate = NONE;
            inches = 0;
            sides = 0;
            east = 0;
            north = 0;
            lasts = 0;
            bright = 0;
            moves = 0;
            tail = 0;
            worth = 9;
            book = NONE;
        }

        boolean isRock() {
            return reign == NONE;
        }

        int detail(int what) {
            switch (what) {
                case 0:
                    return year;
                case 1:
                    return month;
                case 2:
                    return round;
                case 3:
                    return gate;
                case 4:
                    return inches;
                case 5:
                    return sides;
                case 6:
                    return lasts;
                case 7:
                    return bright;
                case 8:
                    return moves;
                case 9:
                    return tail;
                case 10:
                    return worth;
                case 11:
                    return book;
                default:
                    return lastYear;
            }
        }

        int countUnlike(Guest other) {
            int unlike = 0;
            // Details 1 to 9 are just those that a copyist may slip in.
            for (int what = 1; what <= 9; what++) {
                if (detail(what) != other.detail(what)) {
                    unlike++;
                }
            }
            return unlike;
        }

        /** The value of a name in a sort's rule. */
        int valueOf(int name) {
            switch (name) {
                case LASTS:
                    return lasts;
                case BRIGHT:
                    return bright;
                case MOVES:
                    return moves;
                case TAIL:
                    return tail;
                case INCHES:
                    return inches;
                case MONTH:
                    return month;
                default:
                    return 0;
            }
        }

        void tellSides(int told) {
            sides = told;
            east = (told & EAST_SIDE) != 0 ? 1 : (told & WEST_SIDE) != 0 ? -1 : 0;
            north = (told & NORTH_SIDE) != 0 ? 1 : (told & SOUTH_SIDE) != 0 ? -1 : 0;
        }

        /** Ways (bits, as in a reading) of which a side was told. */
        int waysTold() {
            return (east != 0 ? 1 : 0) | (north != 0 ? 2 : 0);
        }
    }

    /** A cloud measured on two plates. */
    private static final class Cloud {
        int x;
        int y;
        int firstYear;
        int firstSize;
        int secondYear;
        int secondSize;
        int slow;
        int period;
        int slowing;
        int bornFrom;
        int bornTo;

        static int ageOf(int size, int laterSize, int years) {
            if (laterSize <= size) {
                return OLDEST;
            }
            return Math.min(OLDEST, size * years / (laterSize - size));
        }

        void reckonBirth(int blur) {
            bornFrom = earliestBirth(secondYear, secondSize, blur);
            bornTo = latestBirth(secondYear, secondSize, blur);
        }

        /** The age by the first plate and a later one; the corner's bits tell which sizes are blurred down. */
        private int cornerAge(int corner, int laterYear, int laterSize, int blur) {
            int size = firstSize + ((corner & 1) == 0 ? blur : -blur);
            int later = laterSize + ((corner & 2) == 0 ? blur : -blur);
            return ageOf(Math.max(0, size), Math.max(0, later), laterYear - firstYear);
        }

        int earliestBirth(int laterYear, int laterSize, int blur) {
            int from = Integer.MAX_VALUE;
            for (int corner = 0; corner < 4; corner++) {
                from = Math.min(from, firstYear - cornerAge(corner, laterYear, laterSize, blur));
            }
            return from;
        }

        int latestBirth(int laterYear, int laterSize, int blur) {
            int to = Integer.MIN_VALUE;
            for (int corner = 0; corner < 4; corner++) {
                to = Math.max(to, firstYear - cornerAge(corner, laterYear, laterSize, blur) * slow / 10);
            }
            return to;
        }

        int bornByTicks() {
            if (slowing <= 0) {
                return Integer.MIN_VALUE;
            }
            return secondYear - Math.min(OLDEST, period * 100 / (2 * slowing));
        }

        /** By how many years a third plate would narrow the birth; 0 if it can't be taken in that year. */
        int narrowerBy(int year, int blur) {
            int span = secondYear - firstYear;
            if (year <= secondYear || span <= 0) {
                return 0;
            }
            int size = secondSize + (secondSize - firstSize) * (year - secondYear) / span;
            int width = latestBirth(year, size, blur) - earliestBirth(year, size, blur);
            return bornTo - bornFrom - width;
        }

        int countPlaces(int d) {
            int columns = Math.min(WIDTH, 2 * d + 1);
            int rows = Math.min(HEIGHT - 1, y + d) - Math.max(0, y - d) + 1;
            return columns * rows;
        }

        /** Years between a guest's years and those in which this can be born. */
        int yearsOutside(Guest guest) {
            if (guest.lastYear < bornFrom) {
                return bornFrom - guest.lastYear;
            }
            return guest.year > bornTo ? guest.year - bornTo : 0;
        }
    }

    /** What has names of its kind: reigns, gates, books, sorts, with two numbers each. */
    private static final class Names {
        final int[] letters;
        final int[] first;
        final int[] second;
        int size;

        Names(int most) {
            int room = most > 0 ? most : 0;
            letters = new int[room];
            first = new int[room];
            second = new int[room];
        }

        void add(int name, int one, int two) {
            if (size < letters.length) {
                letters[size] = name;
                first[size] = one;
                second[size] = two;
                size++;
            }
        }

        int find(int name) {
            for (int k = 0; k < size; k++) {
                if (letters[k] == name) {
                    return k;
                }
            }
            return NONE;
        }
    }

    /** Courts that looked. */
    private static final class Watches {
        final int[] first = new int[MOST_WATCHES];
        final int[] last = new int[MOST_WATCHES];
        final int[] part = new int[MOST_WATCHES];
        int size;

        void add(int from, int to, int looked) {
            if (size < MOST_WATCHES) {
                first[size] = from;
                last[size] = to;
                part[size] = looked;
                size++;
            }
        }

        int shareOf(int year) {
            int most = 0;
            for (int k = 0; k < size; k++) {
                if (first[k] <= year && year <= last[k] && part[k] > most) {
                    most = part[k];
                }
            }
            return most;
        }
    }

    /** The rules of all sorts, one behind the other, operands ahead of their signs. */
    private static final class Rules {
        final int[] kinds = new int[MOST_KNOTS];
        final int[] numbers = new int[MOST_KNOTS];
        final long[] stack = new long[MOST_KNOTS];
        int size;
        boolean error;

        void add(int kind, int number) {
            if (size < MOST_KNOTS) {
                kinds[size] = kind;
                numbers[size] = number;
                size++;
            }
        }

        /** The value of the knots from one to ahead of another; error tells whether there is none. */
        long evaluate(int from, int to, Guest guest) {
            error = false;
            int height = 0;
            for (int k = Math.max(0, from); k < to && k < size && !error; k++) {
                int kind = kinds[k];
                if (kind == NOT && height >= 1) {
                    stack[height - 1] = stack[height - 1] == 0 ? 1 : 0;
                } else if (isSign(kind) && height >= 2) {
                    height--;
                    stack[height - 1] = apply(kind, stack[height - 1], stack[height]);
                } else if (height < MOST_KNOTS) {
                    stack[height] = kind == NUMBER ? numbers[k] : guest.valueOf(kind);
                    height++;
                }
            }
            return error || height == 0 ? 0 : stack[0];
        }

        private static boolean isSign(int kind) {
            return kind == OR || kind == AND || kind >= BELOW && kind <= OVER;
        }

        private long apply(int sign, long a, long b) {
            switch (sign) {
                case OR:
                    return a != 0 || b != 0 ? 1 : 0;
                case AND:
                    return a != 0 && b != 0 ? 1 : 0;
                case BELOW:
                    return a < b ? 1 : 0;
                case AT_MOST:
                    return a <= b ? 1 : 0;
                case EQUAL:
                    return a == b ? 1 : 0;
                case UNLIKE:
                    return a != b ? 1 : 0;
                case AT_LEAST:
                    return a >= b ? 1 : 0;
                case ABOVE:
                    return a > b ? 1 : 0;
                case PLUS:
                    return within(a + b);
                case MINUS:
                    return within(a - b);
                case TIMES:
                    return product(a, b);
                default:
                    return quotient(a, b);
            }
        }

        private long within(long value) {
            if (value > TOP_VALUE || value < -TOP_VALUE) {
                error = true;
                return 0;
            }
            return value;
        }

        private long product(long a, long b) {
            // Looked at ahead of the product, which could wrap into what is allowed.
            if (a != 0 && Math.abs(b) > TOP_VALUE / Math.abs(a)) {
                error = true;
                return 0;
            }
            return a * b;
        }

        private long quotient(long a, long b) {
            if (b == 0) {
                error = true;
                return 0;
            }
            return a / b;
        }
    }

    /** All that one text tells, and what follows from it alone. */
    private static final class Tale {
        final Names reigns = new Names(MOST_REIGNS);
        final Names gates = new Names(MOST_GATES);
        final Names books = new Names(MOST_BOOKS);
        final Names sorts = new Names(MOST_SORTS);
        final Rules rules = new Rules();
        final Watches watches = new Watches();
        final Guest[] guests = new Guest[MOST_GUESTS];
        final Cloud[] clouds = new Cloud[MOST_CLOUDS];
        int guestCount;
        int cloudCount;
        int turn;
        int price;
        int limit;
        int blur;

        Tale() {
            for (int k = 0; k < MOST_GUESTS; k++) {
                guests[k] = new Guest();
            }
            for (int k = 0; k < MOST_CLOUDS; k++) {
                clouds[k] = new Cloud();
            }
            price = 5;
            limit = 20;
        }

        void clear() {
            reigns.size = 0;
            gates.size = 0;
            books.size = 0;
            sorts.size = 0;
            rules.size = 0;
            watches.size = 0;
            guestCount = 0;
            cloudCount = 0;
            turn = 0;
            price = 5;
            limit = 20;
            blur = 0;
        }

        int roundOf(int day) {
            return (day + turn) % ROUND_DAYS;
        }

        private int dayIn(int year, int month, int round) {
            int begin = Sky.monthBegin(year, month);
            int later = Math.floorMod(round - roundOf(begin), ROUND_DAYS);
            return later < Sky.monthLength(month) ? begin + later : NONE;
        }

        int dayOf(Guest guest) {
            return guest.isRock() ? NONE : dayIn(guest.year, guest.month, guest.round);
        }

        int monthsWithRound(Guest guest) {
            int bits = 0;
            for (int month = 1; month <= MONTHS && !guest.isRock(); month++) {
                if (dayIn(guest.year, month, guest.round) != NONE) {
                    bits |= 1 << (month - 1);
                }
            }
            return bits;
        }

        /** The k-th year of its reign that has a guest's round in its month; how many there are, by NONE. */
        int yearsWithRound(Guest guest, int k) {
            int first = guest.isRock() ? 0 : reigns.first[guest.reign];
            int length = guest.isRock() ? 0 : reigns.second[guest.reign];
            int found = 0;
            for (int year = first; year < first + length; year++) {
                if (dayIn(year, guest.month, guest.round) != NONE) {
                    if (found == k) {
                        return year;
                    }
                    found++;
                }
            }
            return k == NONE ? found : NONE;
        }

        int placeX(Guest guest, int reading) {
            if (guest.gate == NONE) {
                return NONE;
            }
            int way = (reading & 1) == 0 ? guest.east : -guest.east;
            return Math.floorMod(gates.first[guest.gate] + way * guest.inches, WIDTH);
        }

        int placeY(Guest guest, int reading) {
            if (guest.gate == NONE) {
                return NONE;
            }
            int way = (reading & 2) == 0 ? guest.north : -guest.north;
            int y = gates.second[guest.gate] + way * guest.inches;
            return Math.max(0, Math.min(HEIGHT - 1, y));
        }

        int sortOf(Guest guest) {
            for (int k = 0; k < sorts.size; k++) {
                long value = sortValue(guest, k);
                if (!rules.error && value != 0) {
                    return k;
                }
            }
            return NONE;
        }

        private long sortValue(Guest guest, int sort) {
            int from = sort == 0 ? 0 : sorts.second[sort - 1];
            return rules.evaluate(from, sorts.second[sort], guest);
        }

        /** What a sort weighs for a guest; an error's value is 0 already. */
        long sortWeight(Guest guest, int sort) {
            long value = sortValue(guest, sort);
            return sorts.first[sort] * Math.max(0, Math.min(TOP_NUMBER, value));
        }

        private int readingToll(Guest guest, Cloud cloud, int reading) {
            int apart = Sky.apart(placeX(guest, reading), placeY(guest, reading), cloud.x, cloud.y);
            return apart + price * Integer.bitCount(reading);
        }

        int bestReading(Guest guest, Cloud cloud) {
            if (guest.gate == NONE) {
                return NONE;
            }
            int best = 0;
            for (int reading = 1; reading < READINGS; reading++) {
                if ((guest.waysTold() & reading) != 0
                        && readingToll(guest, cloud, reading) < readingToll(guest, cloud, best)) {
                    best = reading;
                }
            }
            return best;
        }

        int tollOf(Guest guest, Cloud cloud) {
            int reading = bestReading(guest, cloud);
            int byPlace = reading == NONE ? TOLL_WITHOUT_NEAR : readingToll(guest, cloud, reading);
            return byPlace + cloud.yearsOutside(guest) / 10;
        }

        /** Clouds (bits) that a guest can go together with if it stood at this place; without a gate as ever. */
        int cloudsByPlace(Guest guest, int x, int y) {
            int bits = 0;
            for (int k = 0; k < cloudCount; k++) {
                Cloud cloud = clouds[k];
                int byPlace = guest.gate == NONE ? TOLL_WITHOUT_NEAR : Sky.apart(x, y, cloud.x, cloud.y);
                if (byPlace + cloud.yearsOutside(guest) / 10 <= limit) {
                    bits |= 1 << k;
                }
            }
            return bits;
        }

        boolean hasCloudNear(int x, int y, int d) {
            for (int k = 0; k < cloudCount; k++) {
                if (Sky.apart(x, y, clouds[k].x, clouds[k].y) <= d) {
                    return true;
                }
            }
            return false;
        }

        boolean areOne(Guest a, Guest b) {
            if (a.isRock() || b.isRock() || a.year != b.year) {
                return false;
            }
            int dayA = dayOf(a);
            int dayB = dayOf(b);
            boolean sameTime = dayA == NONE || dayB == NONE ? a.month == b.month : Math.abs(dayA - dayB) <= 5;
            if (!sameTime || a.gate == NONE || b.gate == NONE) {
                return sameTime;
            }
            return Sky.apart(placeX(a, 0), placeY(a, 0), placeX(b, 0), placeY(b, 0)) <= 3;
        }

        boolean isCopyOf(int book, int other) {
            int source = book;
            for (int k = 0; k < MOST_BOOKS && source != NONE; k++) {
                source = books.first[source];
                if (source == other) {
                    return true;
                }
            }
            return false;
        }
    }

    /** The bytes that were fed, and the words, numbers and signs along them, one at a time. */
    private static final class Tape {
        private final byte[] bytes = new byte[TAPE_SIZE];
        private final int[] language = new int[LANGUAGE_WORDS];
        private int length;
        private int after;
        int size;
        int kind;
        int at;
        int value;

        Tape() {
            int word = 0;
            int begin = 0;
            for (int k = 0; k < WORDS.length() && word < LANGUAGE_WORDS; k++) {
                if (WORDS.charAt(k) == ' ') {
                    language[word] <<= 5 * (6 - (k - begin));
                    word++;
                    begin = k + 1;
                } else {
                    language[word] = language[word] << 5 | WORDS.charAt(k) - 'a' + 1;
                }
            }
        }

        void put(int number) {
            for (int shift = 24; shift >= 0 && size < TAPE_SIZE; shift -= 8) {
                bytes[size] = (byte) (number >> shift);
                size++;
            }
        }

        void start(int n) {
            length = Math.max(0, Math.min(n, TAPE_SIZE));
            after = 0;
            advance();
        }

        void advance() {
            while (after < length && (bytes[after] == 10 || bytes[after] == 32)) {
                after++;
            }
            at = after;
            if (after >= length) {
                kind = END;
                return;
            }
            int sign = bytes[after];
            if (sign >= 'a' && sign <= 'z') {
                takeWord();
            } else if (sign >= '0' && sign <= '9') {
                takeNumber();
            } else {
                kind = signKind(sign);
                after++;
                widenSign();
            }
        }

        /** A word's letters are kept as five bits each, so that a word of the language or a name is one number. */
        private void takeWord() {
            value = 0;
            for (; after < length && bytes[after] >= 'a' && bytes[after] <= 'z'; after++) {
                if (after - at < 6) {
                    value = value << 5 | bytes[after] - 'a' + 1;
                }
            }
            int letters = after - at;
            if (letters > 6) {
                kind = NO_TOKEN;
                return;
            }
            value <<= 5 * (6 - letters);
            kind = OTHER_WORD;
            for (int k = 0; k < LANGUAGE_WORDS; k++) {
                if (language[k] == value) {
                    kind = k;
                }
            }
        }

        private void takeNumber() {
            kind = NUMBER;
            value = 0;
            for (; after < length && bytes[after] >= '0' && bytes[after] <= '9'; after++) {
                // A number is kept just above every bound, however many digits it has.
                value = Math.min(TOP_NUMBER + 1, value * 10 + bytes[after] - '0');
            }
        }

        /** A sign of two characters is one only if nothing stands between them. */
        private void widenSign() {
            int behind = after < length ? bytes[after] : 0;
            if ((kind == BELOW || kind == ABOVE) && behind == '=') {
                kind = kind == BELOW ? AT_MOST : AT_LEAST;
                after++;
            } else if (kind == BELOW && behind == '>') {
                kind = UNLIKE;
                after++;
            }
        }

        private static int signKind(int sign) {
            switch (sign) {
                case ';':
                    return SEMICOLON;
                case '(':
                    return OPEN;
                case ')':
                    return CLOSE;
                case '<':
                    return BELOW;
                case '=':
                    return EQUAL;
                case '>':
                    return ABOVE;
                case '+':
                    return PLUS;
                case '-':
                    return MINUS;
                case '*':
                    return TIMES;
                case '/':
                    return OVER;
                default:
                    return NO_TOKEN;
            }
        }
    }

    /** Reads a text into a tale of its own, up to its first fault, which ends the reading by an exception. */
    private static final class Reader {
        private final int[] pending = new int[MOST_KNOTS + MOST_OPEN];
        private Tale tale = new Tale();
        private int pendingSize;
        private int openCount;
        private int knots;
        private boolean operandDue;
        private boolean mayDeny;
        private int settingsTold;
        final Tape tape = new Tape();
        int faultKind = 0;
        int faultPlace = NONE;

        int readLines(int n) {
            tale.clear();
            knots = 0;
            settingsTold = 0;
            faultKind = 0;
            faultPlace = NONE;
            tape.start(n);
            int lines = 0;
            while (tape.kind != END && lines < TAPE_SIZE) {
                readLine();
                take(SEMICOLON);
                lines++;
            }
            for (int k = 0; k < tale.cloudCount; k++) {
                tale.clouds[k].reckonBirth(tale.blur);
            }
            return lines;
        }

        /** Gives the tale that was read for one that isn't needed any more, into which the next text is read. */
        Tale giveFor(Tale old) {
            Tale read = tale;
            tale = old;
            return read;
        }

        private void fail(int kind) {
            faultKind = kind;
            faultPlace = tape.at;
            throw new IllegalArgumentException("the text has a fault");
        }

        private void take(int kind) {
            if (tape.kind != kind) {
                fail(FAULT_TOKEN);
            }
            tape.advance();
        }

        private int number(int least, int most) {
            if (tape.kind != NUMBER) {
                fail(FAULT_TOKEN);
            }
            int value = tape.value;
            if (value < least || value > most) {
                fail(FAULT_MUCH);
            }
            tape.advance();
            return value;
        }

        private int newName(Names names) {
            if (tape.kind != OTHER_WORD) {
                fail(FAULT_TOKEN);
            }
            if (names.find(tape.value) != NONE) {
                fail(FAULT_TWICE);
            }
            int letters = tape.value;
            tape.advance();
            return letters;
        }

        private int toldName(Names names) {
            if (tape.kind != OTHER_WORD) {
                fail(FAULT_TOKEN);
            }
            int found = names.find(tape.value);
            if (found == NONE) {
                fail(FAULT_UNTOLD);
            }
            tape.advance();
            return found;
        }

        /** Goes behind the word of a line if one more of its kind may come. */
        private void begin(int size, int most) {
            if (size >= most) {
                fail(FAULT_MUCH);
            }
            tape.advance();
        }

        private void readLine() {
            switch (tape.kind) {
                case REIGN:
                    readReign();
                    break;
                case GATE:
                    readGate();
                    break;
                case BOOK:
                    readBook();
                    break;
                case GUEST:
                    startGuest();
                    readDetails();
                    break;
                case ROCK:
                    startRock();
                    readDetails();
                    break;
                case CLOUD:
                    readCloud();
                    break;
                case SORT:
                    readSort();
                    break;
                case WATCH:
                    readWatch();
                    break;
                case TURN:
                    tale.turn = readSetting(ROUND_DAYS - 1);
                    break;
                case PRICE:
                    tale.price = readSetting(99);
                    break;
                case LIMIT:
                    tale.limit = readSetting(999);
                    break;
                case BLUR:
                    tale.blur = readSetting(99);
                    break;
                default:
                    fail(FAULT_TOKEN);
                    break;
            }
        }

        private int readSetting(int most) {
            settingsTold = tellOnce(settingsTold);
            return number(0, most);
        }

        /** Goes behind a word that may come once, marked in the bits of those that came. */
        private int tellOnce(int came) {
            int bit = 1 << tape.kind;
            if ((came & bit) != 0) {
                fail(FAULT_TWICE);
            }
            tape.advance();
            return came | bit;
        }

        private void readReign() {
            begin(tale.reigns.size, MOST_REIGNS);
            int name = newName(tale.reigns);
            int first = number(0, 1900);
            int length = number(1, 60);
            tale.reigns.add(name, first, length);
        }

        private void readGate() {
            begin(tale.gates.size, MOST_GATES);
            int name = newName(tale.gates);
            int x = number(0, WIDTH - 1);
            int y = number(0, HEIGHT - 1);
            tale.gates.add(name, x, y);
        }

        private void readBook() {
            begin(tale.books.size, MOST_BOOKS);
            int name = newName(tale.books);
            int source = NONE;
            if (tape.kind == FROM) {
                tape.advance();
                source = toldName(tale.books);
            }
            tale.books.add(name, source, 0);
        }

        private void readWatch() {
            begin(tale.watches.size, MOST_WATCHES);
            int first = number(0, YEARS - 1);
            int last = number(first, YEARS - 1);
            int looked = number(1, 10);
            tale.watches.add(first, last, looked);
        }

        private void startGuest() {
            begin(tale.guestCount, MOST_GUESTS);
            Guest guest = tale.guests[tale.guestCount];
            guest.clear();
            guest.reign = toldName(tale.reigns);
            guest.year = tale.reigns.first[guest.reign] + number(1, tale.reigns.second[guest.reign]) - 1;
            guest.lastYear = guest.year;
            guest.month = number(1, MONTHS);
            guest.round = number(0, ROUND_DAYS - 1);
        }

        private void startRock() {
            begin(tale.guestCount, MOST_GUESTS);
            Guest guest = tale.guests[tale.guestCount];
            guest.clear();
            guest.year = number(0, YEARS - 1);
            guest.lastYear = number(guest.year, YEARS - 1);
        }

        /** What follows the start of a guest or a rock, which counts as told only then. */
        private void readDetails() {
            Guest guest = tale.guests[tale.guestCount];
            int came = 0;
            // Each detail comes once at most, so that an eighth one is a fault.
            for (int k = 0; k < 8 && tape.kind >= IN && tape.kind <= TAIL; k++) {
                int word = tape.kind;
                came = tellOnce(came);
                switch (word) {
                    case IN:
                        guest.book = toldName(tale.books);
                        break;
                    case NEAR:
                        guest.gate = toldName(tale.gates);
                        guest.inches = number(1, 20);
                        guest.tellSides(readSides());
                        break;
                    case LASTS:
                        guest.lasts = number(1, 999);
                        break;
                    case BRIGHT:
                        guest.bright = number(0, 20);
                        break;
                    case MOVES:
                        guest.moves = number(0, 99);
                        break;
                    case WORTH:
                        guest.worth = number(1, 9);
                        break;
                    default:
                        guest.tail = 1;
                        break;
                }
            }
            tale.guestCount++;
        }

        private int readSides() {
            if (!isSide(tape.kind)) {
                fail(FAULT_TOKEN);
            }
            int first = tape.kind;
            tape.advance();
            if (!isSide(tape.kind)) {
                return sideBit(first);
            }
            int second = tape.kind;
            if (first <= SOUTH == second <= SOUTH) {
                fail(FAULT_TWICE);
            }
            tape.advance();
            return sideBit(first) | sideBit(second);
        }

        private static boolean isSide(int kind) {
            return kind >= NORTH && kind <= WEST;
        }

        private static int sideBit(int kind) {
            switch (kind) {
                case NORTH:
                    return NORTH_SIDE;
                case SOUTH:
                    return SOUTH_SIDE;
                case EAST:
                    return EAST_SIDE;
                default:
                    return WEST_SIDE;
            }
        }

        private void readCloud() {
            begin(tale.cloudCount, MOST_CLOUDS);
            Cloud cloud = tale.clouds[tale.cloudCount];
            cloud.x = number(0, WIDTH - 1);
            cloud.y = number(0, HEIGHT - 1);
            take(PLATE);
            cloud.firstYear = number(0, PLATE_YEARS - 1);
            cloud.firstSize = number(1, TOP_NUMBER);
            take(PLATE);
            cloud.secondYear = number(cloud.firstYear + 1, PLATE_YEARS - 1);
            cloud.secondSize = number(cloud.firstSize + 1, TOP_NUMBER);
            cloud.slow = 10;
            cloud.period = 0;
            cloud.slowing = 0;
            int came = 0;
            for (int k = 0; k < 3 && (tape.kind == SLOW || tape.kind == TICK); k++) {
                boolean slow = tape.kind == SLOW;
                came = tellOnce(came);
                if (slow) {
                    cloud.slow = number(1, 10);
                } else {
                    cloud.period = number(1, TOP_NUMBER);
                    cloud.slowing = number(1, TOP_NUMBER);
                }
            }
            tale.cloudCount++;
        }

        private void readSort() {
            begin(tale.sorts.size, MOST_SORTS);
            int name = newName(tale.sorts);
            int weight = number(1, 99);
            pendingSize = 0;
            openCount = 0;
            operandDue = true;
            mayDeny = true;
            boolean more = true;
            for (int k = 0; k < TAPE_SIZE && more; k++) {
                if (operandDue) {
                    readOperand();
                } else {
                    more = readOperator();
                }
            }
            if (openCount > 0) {
                fail(FAULT_TOKEN);
            }
            settlePending(1);
            tale.sorts.add(name, weight, tale.rules.size);
        }

        private void readOperand() {
            int kind = tape.kind;
            if (kind == OPEN) {
                if (openCount == MOST_OPEN) {
                    fail(FAULT_MUCH);
                }
                openCount++;
                pushPending(OPEN);
                mayDeny = true;
            } else if (kind == NOT && mayDeny) {
                countKnot();
                pushPending(NOT);
            } else if (kind == NUMBER || isRuleName(kind)) {
                countKnot();
                if (kind == NUMBER && tape.value > TOP_NUMBER) {
                    fail(FAULT_MUCH);
                }
                tale.rules.add(kind, tape.value);
                operandDue = false;
            } else {
                fail(FAULT_TOKEN);
            }
            tape.advance();
        }

        /** Reads a sign or a closing bracket behind an operand; false, and nothing read, where the rule ends. */
        private boolean readOperator() {
            int kind = tape.kind;
            if (kind == CLOSE && openCount > 0) {
                settlePending(1);
                pendingSize = Math.max(0, pendingSize - 1);
                openCount--;
                tape.advance();
                return true;
            }
            if (!Rules.isSign(kind)) {
                return false;
            }
            int rank = rankOf(kind);
            boolean comparison = rank == COMPARISON_RANK;
            settlePending(comparison ? rank + 1 : rank);
            if (comparison && pendingSize > 0 && rankOf(pending[pendingSize - 1]) == rank) {
                // Comparisons don't follow one another: the second sign can't stand there.
                fail(FAULT_TOKEN);
            }
            countKnot();
            pushPending(kind);
            operandDue = true;
            mayDeny = rank < DENIAL_RANK;
            tape.advance();
            return true;
        }

        private void countKnot() {
            if (knots >= MOST_KNOTS) {
                fail(FAULT_MUCH);
            }
            knots++;
        }

        private void pushPending(int kind) {
            if (pendingSize < pending.length) {
                pending[pendingSize] = kind;
                pendingSize++;
            }
        }

        /** Puts the pending signs that bind as strongly as this into the rule; an open bracket stops it. */
        private void settlePending(int rank) {
            while (pendingSize > 0 && rankOf(pending[pendingSize - 1]) >= rank) {
                pendingSize--;
                tale.rules.add(pending[pendingSize], 0);
            }
        }

        private static boolean isRuleName(int kind) {
            return kind >= LASTS && kind <= MOVES || kind == TAIL || kind == INCHES || kind == MONTH;
        }

        private static int rankOf(int kind) {
            switch (kind) {
                case OPEN:
                    return 0;
                case OR:
                    return 1;
                case AND:
                    return 2;
                case NOT:
                    return DENIAL_RANK;
                case PLUS:
                case MINUS:
                    return 5;
                case TIMES:
                case OVER:
                    return 6;
                default:
                    return COMPARISON_RANK;
            }
        }
    }

    /** Guests joined into events. */
    private static final class Events {
        /** The least guest of each guest's event; NONE for those that aren't trusted. */
        final int[] least = new int[MOST_GUESTS];

        void reckon(Tale tale, int trusted) {
            for (int k = 0; k < MOST_GUESTS; k++) {
                least[k] = k < tale.guestCount && (trusted >> k & 1) == 1 ? k : NONE;
            }
            for (int a = 0; a < tale.guestCount; a++) {
                for (int b = a + 1; b < tale.guestCount; b++) {
                    if (least[a] != NONE && least[b] != NONE && tale.areOne(tale.guests[a], tale.guests[b])) {
                        join(least[a], least[b]);
                    }
                }
            }
        }

        private void join(int one, int other) {
            int kept = Math.min(one, other);
            int left = Math.max(one, other);
            for (int k = 0; k < MOST_GUESTS; k++) {
                if (least[k] == left) {
                    least[k] = kept;
                }
            }
        }

        int countAll() {
            int found = 0;
            for (int k = 0; k < MOST_GUESTS; k++) {
                if (least[k] == k) {
                    found++;
                }
            }
            return found;
        }

        /** From which guest of its event one is copied, or NONE. */
        int sourceOf(Tale tale, int guest) {
            Guest copy = tale.guests[guest];
            if (least[guest] == NONE || copy.book == NONE) {
                return NONE;
            }
            int source = NONE;
            int fewest = Integer.MAX_VALUE;
            for (int k = 0; k < tale.guestCount; k++) {
                Guest other = tale.guests[k];
                if (least[k] == least[guest] && other.book != NONE && tale.isCopyOf(copy.book, other.book)
                        && copy.countUnlike(other) < fewest) {
                    source = k;
                    fewest = copy.countUnlike(other);
                }
            }
            return source;
        }

        /** The worth of the event whose least guest this is, as a part of its fraction. */
        long worthOf(Tale tale, int event, int what) {
            long lack = 1;
            long whole = 1;
            for (int k = 0; k < tale.guestCount; k++) {
                if (least[k] == event && sourceOf(tale, k) == NONE) {
                    lack *= 10 - tale.guests[k].worth;
                    whole *= 10;
                }
            }
            return Sky.leastTerms(whole - lack, whole, what);
        }

        /** Whether an event has a guest of a sort (or of any, by NONE) in one of the years that were watched. */
        boolean hasSuch(Tale tale, int event, int sort, int from, int to) {
            for (int k = 0; k < tale.guestCount; k++) {
                Guest guest = tale.guests[k];
                if (least[k] == event && !guest.isRock() && from <= guest.year && guest.year <= to
                        && tale.watches.shareOf(guest.year) > 0 && (sort == NONE || tale.sortOf(guest) == sort)) {
                    return true;
                }
            }
            return false;
        }
    }

    /** Which guest goes with which cloud. */
    private static final class Pairing {
        private static final int UNABLE = -1;
        private static final long FAR = Long.MAX_VALUE;
        // One number orders all pairings: first the count, then the toll, then the clouds guest by guest as
        // digits to the base 11 (none is the digit 10), so that the cheapest pairing is the only cheapest one.
        private static final long[] DIGITS = {
            285311670611L, 25937424601L, 2357947691L, 214358881L, 19487171L, 1771561L,
            161051L, 14641L, 1331L, 121L, 11L, 1L};
        private static final long TOLL_STEP = 3138428376721L;
        private static final long COUNT_STEP = 31384283767210000L;
        private static final int COLUMNS = MOST_CLOUDS + MOST_GUESTS;

        private final int[] tolls = new int[MOST_GUESTS * MOST_CLOUDS];
        private final long[] guestLift = new long[MOST_GUESTS + 1];
        private final long[] seatLift = new long[COLUMNS + 1];
        private final long[] slack = new long[COLUMNS + 1];
        private final int[] guestAt = new int[COLUMNS + 1];
        private final int[] wayTo = new int[COLUMNS + 1];
        private final int[] owners = new int[MOST_CLOUDS];
        private int guestCount;
        private int cloudCount;
        private int seatCount;
        private int tried;
        final int[] cloudOf = new int[MOST_GUESTS];
        final int[] drawn = new int[MOST_GUESTS];
        int pairCount;
        int tollInAll;

        void reckon(Tale tale, int trusted) {
            guestCount = tale.guestCount;
            cloudCount = tale.cloudCount;
            // Besides the clouds there is a seat without a cloud for every guest.
            seatCount = cloudCount + guestCount;
            for (int g = 0; g < guestCount; g++) {
                for (int c = 0; c < cloudCount; c++) {
                    int toll = tale.tollOf(tale.guests[g], tale.clouds[c]);
                    boolean able = (trusted >> g & 1) == 1 && toll <= tale.limit;
                    tolls[g * MOST_CLOUDS + c] = able ? toll : UNABLE;
                }
            }
            Arrays.fill(guestLift, 0);
            Arrays.fill(seatLift, 0);
            Arrays.fill(guestAt, 0);
            for (int g = 1; g <= guestCount; g++) {
                seatGuest(g);
            }
            keepPairs();
        }

        private boolean isAble(int guest, int cloud) {
            return tolls[guest * MOST_CLOUDS + cloud] != UNABLE;
        }

        /** What a seat costs a guest, both counted from 1; FAR where they can't go together. */
        private long costOf(int guest, int seat) {
            long digit = DIGITS[guest - 1];
            if (seat > cloudCount) {
                return MOST_CLOUDS * digit;
            }
            if (!isAble(guest - 1, seat - 1)) {
                return FAR;
            }
            int toll = tolls[(guest - 1) * MOST_CLOUDS + seat - 1];
            return toll * TOLL_STEP + (seat - 1) * digit - COUNT_STEP;
        }

        // The Hungarian way: each guest in turn is seated by the cheapest chain of moves of those seated ahead of
        // it; the lifts keep all costs of free moves at 0 or above. Seat 0 is where the new guest waits.
        private void seatGuest(int guest) {
            Arrays.fill(slack, FAR);
            guestAt[0] = guest;
            int seat = 0;
            int reached = 0;
            for (int step = 0; step <= seatCount; step++) {
                reached |= 1 << seat;
                int nearest = reachFrom(seat, reached);
                liftBy(slack[nearest], reached);
                seat = nearest;
                if (guestAt[seat] == 0) {
                    break;
                }
            }
            for (int step = 0; step <= seatCount && seat != 0; step++) {
                int before = wayTo[seat];
                guestAt[seat] = guestAt[before];
                seat = before;
            }
        }

        /** The cheapest seat not reached yet, after looking at the moves of the guest at a seat. */
        private int reachFrom(int seat, int reached) {
            int guest = guestAt[seat];
            int nearest = 0;
            for (int s = 1; s <= seatCount; s++) {
                if ((reached >> s & 1) == 1) {
                    continue;
                }
                long cost = costOf(guest, s);
                if (cost != FAR && cost - guestLift[guest] - seatLift[s] < slack[s]) {
                    slack[s] = cost - guestLift[guest] - seatLift[s];
                    wayTo[s] = seat;
                }
                if (nearest == 0 || slack[s] < slack[nearest]) {
                    nearest = s;
                }
            }
            return nearest;
        }

        private void liftBy(long more, int reached) {
            for (int s = 0; s <= seatCount; s++) {
                if ((reached >> s & 1) == 1) {
                    guestLift[guestAt[s]] += more;
                    seatLift[s] -= more;
                } else if (slack[s] != FAR) {
                    slack[s] -= more;
                }
            }
        }

        private void keepPairs() {
            Arrays.fill(cloudOf, NONE);
            pairCount = 0;
            tollInAll = 0;
            for (int c = 0; c < cloudCount; c++) {
                int guest = guestAt[c + 1] - 1;
                if (guest >= 0) {
                    cloudOf[guest] = c;
                    pairCount++;
                    tollInAll += tolls[guest * MOST_CLOUDS + c];
                }
            }
        }

        int guestOf(int cloud) {
            for (int g = 0; g < guestCount; g++) {
                if (cloudOf[g] == cloud) {
                    return g;
                }
            }
            return NONE;
        }

        /** How many guests can go together with a cloud. */
        int guestsFor(int cloud) {
            int able = 0;
            for (int g = 0; g < guestCount; g++) {
                if (isAble(g, cloud)) {
                    able++;
                }
            }
            return able;
        }

        /** How many clouds a guest can go together with. */
        int cloudsFor(int guest) {
            int able = 0;
            for (int c = 0; c < cloudCount; c++) {
                if (isAble(guest, c)) {
                    able++;
                }
            }
            return able;
        }

        /** How many pairs there are at most by the clouds drawn for each guest. */
        int countDrawn() {
            Arrays.fill(owners, NONE);
            int found = 0;
            for (int g = 0; g < guestCount; g++) {
                tried = 0;
                if (findsCloud(g, 0)) {
                    found++;
                }
            }
            return found;
        }

        /** Whether a guest gets a cloud that is free or whose guest finds another; each cloud is tried once. */
        private boolean findsCloud(int guest, int depth) {
            if (depth > MOST_CLOUDS) {
                return false;
            }
            for (int c = 0; c < cloudCount; c++) {
                int bit = 1 << c;
                if ((drawn[guest] & bit) == 0 || (tried & bit) != 0) {
                    continue;
                }
                tried |= bit;
                if (owners[c] == NONE || findsCloud(owners[c], depth + 1)) {
                    owners[c] = guest;
                    return true;
                }
            }
            return false;
        }
    }
}
