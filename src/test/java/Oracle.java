import java.util.ArrayList;
import java.util.List;

/**
 * The document read a second time, in the slowest and plainest way: a parser that follows the grammar rule by
 * rule, days and places looked for one by one, pairings tried out all. Kept apart from how the class does it.
 */
final class Oracle {
    static final class Fault extends RuntimeException {
        private static final long serialVersionUID = 1L;
        final int kind;
        final int place;

        Fault(int kind, int place) {
            this.kind = kind;
            this.place = place;
        }
    }

    static final class Star {
        int reign = -1;
        int year;
        int last;
        int month;
        int round;
        int gate = -1;
        int inches;
        String side = "";
        int lasts;
        int bright;
        int moves;
        int tail;
        int worth = 9;
        int book = -1;
    }

    static final class Nebula {
        int x;
        int y;
        int y1;
        int s1;
        int y2;
        int s2;
        int slow = 10;
        int period = -1;
        int slowing = -1;
    }

    /** A knot of a rule. */
    static final class Knot {
        String sign;
        long number;
        Knot left;
        Knot right;
    }

    static final String LANGUAGE = " reign gate book from guest rock in near lasts bright moves worth tail cloud plate"
        + " slow tick sort watch turn price limit blur north south east west or and not inches month ";

    final List<String> reigns = new ArrayList<>();
    final List<int[]> reignYears = new ArrayList<>();
    final List<String> gates = new ArrayList<>();
    final List<int[]> gatePlaces = new ArrayList<>();
    final List<String> books = new ArrayList<>();
    final List<Integer> sources = new ArrayList<>();
    final List<String> sorts = new ArrayList<>();
    final List<Integer> weights = new ArrayList<>();
    final List<Knot> rules = new ArrayList<>();
    final List<Star> stars = new ArrayList<>();
    final List<Nebula> nebulas = new ArrayList<>();
    final List<int[]> watches = new ArrayList<>();
    int turn = -1;
    int price = -1;
    int limit = -1;
    int blur = -1;
    int knots;
    int lines;
    boolean[] doubted = new boolean[0];
    int known;

    private final String text;
    private int at;

    Oracle(String text) {
        this.text = text;
    }

    /** Reads the text, or throws its fault. */
    void read() {
        while (peek() != null) {
            line();
            need(";");
            lines++;
        }
        turn = Math.max(turn, 0);
        price = price < 0 ? 5 : price;
        limit = limit < 0 ? 20 : limit;
        blur = Math.max(blur, 0);
        doubted = new boolean[stars.size()];
        known = stars.size();
    }

    // ---- tokens

    /** The token here without going on; null at the end. */
    private String peek() {
        while (at < text.length() && (text.charAt(at) == 32 || text.charAt(at) == 10)) {
            at++;
        }
        if (at >= text.length()) {
            return null;
        }
        int end = at;
        while (end < text.length() && text.charAt(end) >= 'a' && text.charAt(end) <= 'z') {
            end++;
        }
        if (end > at) {
            return text.substring(at, end);
        }
        while (end < text.length() && text.charAt(end) >= '0' && text.charAt(end) <= '9') {
            end++;
        }
        if (end > at) {
            return text.substring(at, end);
        }
        for (String sign : new String[] {"<=", "<>", ">="}) {
            if (text.startsWith(sign, at)) {
                return sign;
            }
        }
        return text.substring(at, at + 1);
    }

    private boolean sees(String... tokens) {
        String token = peek();
        for (String one : tokens) {
            if (one.equals(token)) {
                return true;
            }
        }
        return false;
    }

    private void go() {
        at += peek().length();
    }

    private RuntimeException bad() {
        peek();
        return new Fault(1, at);
    }

    private void need(String token) {
        if (!sees(token)) {
            throw bad();
        }
        go();
    }

    private int number(int low, int high) {
        String token = peek();
        if (token == null || !token.matches("[0-9]+")) {
            throw bad();
        }
        java.math.BigInteger value = new java.math.BigInteger(token);
        if (value.compareTo(java.math.BigInteger.valueOf(low)) < 0
                || value.compareTo(java.math.BigInteger.valueOf(high)) > 0) {
            throw new Fault(2, at);
        }
        go();
        return value.intValue();
    }

    private String name() {
        String token = peek();
        if (token == null || !token.matches("[a-z]{1,6}") || LANGUAGE.contains(" " + token + " ")) {
            throw bad();
        }
        return token;
    }

    private String fresh(List<String> names) {
        String token = name();
        if (names.contains(token)) {
            throw new Fault(3, at);
        }
        go();
        return token;
    }

    private int old(List<String> names) {
        String token = name();
        if (!names.contains(token)) {
            throw new Fault(4, at);
        }
        go();
        return names.indexOf(token);
    }

    // ---- lines

    private void room(int size, int most) {
        if (size >= most) {
            throw new Fault(2, at);
        }
        go();
    }

    private int once(int before, int most) {
        if (before >= 0) {
            throw new Fault(3, at);
        }
        go();
        return number(0, most);
    }

    private void line() {
        if (sees("reign")) {
            room(reigns.size(), 8);
            String name = fresh(reigns);
            reignYears.add(new int[] {number(0, 1900), number(1, 60)});
            reigns.add(name);
        } else if (sees("gate")) {
            room(gates.size(), 10);
            String name = fresh(gates);
            gatePlaces.add(new int[] {number(0, 119), number(0, 59)});
            gates.add(name);
        } else if (sees("book")) {
            room(books.size(), 8);
            String name = fresh(books);
            int source = -1;
            if (sees("from")) {
                go();
                source = old(books);
            }
            sources.add(source);
            books.add(name);
        } else if (sees("guest", "rock")) {
            star();
        } else if (sees("cloud")) {
            nebula();
        } else if (sees("sort")) {
            room(sorts.size(), 6);
            String name = fresh(sorts);
            weights.add(number(1, 99));
            rules.add(either(0));
            sorts.add(name);
        } else if (sees("watch")) {
            room(watches.size(), 6);
            int a = number(0, 1999);
            int b = number(a, 1999);
            watches.add(new int[] {a, b, number(1, 10)});
        } else if (sees("turn")) {
            turn = once(turn, 59);
        } else if (sees("price")) {
            price = once(price, 99);
        } else if (sees("limit")) {
            limit = once(limit, 999);
        } else if (sees("blur")) {
            blur = once(blur, 99);
        } else {
            throw bad();
        }
    }

    private void star() {
        boolean rock = sees("rock");
        room(stars.size(), 12);
        Star star = new Star();
        if (rock) {
            star.year = number(0, 1999);
            star.last = number(star.year, 1999);
        } else {
            star.reign = old(reigns);
            int[] years = reignYears.get(star.reign);
            star.year = years[0] + number(1, years[1]) - 1;
            star.last = star.year;
            star.month = number(1, 12);
            star.round = number(0, 59);
        }
        String came = " ";
        while (sees("in", "near", "lasts", "bright", "moves", "worth", "tail")) {
            String word = peek();
            if (came.contains(" " + word + " ")) {
                throw new Fault(3, at);
            }
            came += word + " ";
            go();
            switch (word) {
                case "in" -> star.book = old(books);
                case "near" -> {
                    star.gate = old(gates);
                    star.inches = number(1, 20);
                    star.side = sides();
                }
                case "lasts" -> star.lasts = number(1, 999);
                case "bright" -> star.bright = number(0, 20);
                case "moves" -> star.moves = number(0, 99);
                case "worth" -> star.worth = number(1, 9);
                default -> star.tail = 1;
            }
        }
        stars.add(star);
    }

    private String sides() {
        if (!sees("north", "south", "east", "west")) {
            throw bad();
        }
        String first = peek();
        go();
        if (!sees("north", "south", "east", "west")) {
            return first;
        }
        String second = peek();
        boolean across = first.equals("east") || first.equals("west");
        boolean acrossToo = second.equals("east") || second.equals("west");
        if (across == acrossToo) {
            throw new Fault(3, at);
        }
        go();
        return first + " " + second;
    }

    private void nebula() {
        room(nebulas.size(), 10);
        Nebula cloud = new Nebula();
        cloud.x = number(0, 119);
        cloud.y = number(0, 59);
        need("plate");
        cloud.y1 = number(0, 2999);
        cloud.s1 = number(1, 9999);
        need("plate");
        cloud.y2 = number(cloud.y1 + 1, 2999);
        cloud.s2 = number(cloud.s1 + 1, 9999);
        boolean slow = false;
        while (sees("slow", "tick")) {
            if (sees("slow") ? slow : cloud.period >= 0) {
                throw new Fault(3, at);
            }
            if (sees("slow")) {
                go();
                cloud.slow = number(1, 10);
                slow = true;
            } else {
                go();
                cloud.period = number(1, 9999);
                cloud.slowing = number(1, 9999);
            }
        }
        nebulas.add(cloud);
    }

    // ---- rules, by the grammar: E A B C S T P

    private Knot knot(String sign) {
        knots++;
        if (knots > 64) {
            throw new Fault(2, at);
        }
        Knot knot = new Knot();
        knot.sign = sign;
        return knot;
    }

    private Knot signKnot(Knot left) {
        Knot knot = knot(peek());
        knot.left = left;
        go();
        return knot;
    }

    private Knot either(int open) {
        Knot knot = both(open);
        while (sees("or")) {
            knot = signKnot(knot);
            knot.right = both(open);
        }
        return knot;
    }

    private Knot both(int open) {
        Knot knot = denied(open);
        while (sees("and")) {
            knot = signKnot(knot);
            knot.right = denied(open);
        }
        return knot;
    }

    private Knot denied(int open) {
        if (sees("not")) {
            Knot knot = signKnot(null);
            knot.right = denied(open);
            return knot;
        }
        return compared(open);
    }

    private Knot compared(int open) {
        Knot knot = sum(open);
        if (sees("<", "<=", "=", "<>", ">=", ">")) {
            knot = signKnot(knot);
            knot.right = sum(open);
        }
        return knot;
    }

    private Knot sum(int open) {
        Knot knot = product(open);
        while (sees("+", "-")) {
            knot = signKnot(knot);
            knot.right = product(open);
        }
        return knot;
    }

    private Knot product(int open) {
        Knot knot = part(open);
        while (sees("*", "/")) {
            knot = signKnot(knot);
            knot.right = part(open);
        }
        return knot;
    }

    private Knot part(int open) {
        if (sees("(")) {
            if (open == 8) {
                throw new Fault(2, at);
            }
            go();
            Knot knot = either(open + 1);
            need(")");
            return knot;
        }
        if (sees("lasts", "bright", "moves", "tail", "inches", "month")) {
            return signKnot(null);
        }
        String token = peek();
        if (token == null || !token.matches("[0-9]+")) {
            throw bad();
        }
        Knot knot = knot("N");
        knot.number = number(0, 9999);
        return knot;
    }

    /** The value of a rule; null is the error. */
    static Long value(Knot knot, Star star) {
        switch (knot.sign) {
            case "N": return knot.number;
            case "lasts": return (long) star.lasts;
            case "bright": return (long) star.bright;
            case "moves": return (long) star.moves;
            case "tail": return (long) star.tail;
            case "inches": return (long) star.inches;
            case "month": return (long) star.month;
            default: break;
        }
        Long right = value(knot.right, star);
        if (knot.sign.equals("not")) {
            return right == null ? null : right == 0 ? 1L : 0L;
        }
        Long left = value(knot.left, star);
        if (left == null || right == null) {
            return null;
        }
        java.math.BigInteger a = java.math.BigInteger.valueOf(left);
        java.math.BigInteger b = java.math.BigInteger.valueOf(right);
        switch (knot.sign) {
            case "or": return left != 0 || right != 0 ? 1L : 0L;
            case "and": return left != 0 && right != 0 ? 1L : 0L;
            case "<": return left < right ? 1L : 0L;
            case "<=": return left <= right ? 1L : 0L;
            case "=": return left.equals(right) ? 1L : 0L;
            case "<>": return left.equals(right) ? 0L : 1L;
            case ">=": return left >= right ? 1L : 0L;
            case ">": return left > right ? 1L : 0L;
            case "+": return bounded(a.add(b));
            case "-": return bounded(a.subtract(b));
            case "*": return bounded(a.multiply(b));
            default: return right == 0 ? null : bounded(a.divide(b));
        }
    }

    private static Long bounded(java.math.BigInteger value) {
        return value.abs().compareTo(java.math.BigInteger.TEN.pow(12)) > 0 ? null : (Long) value.longValue();
    }

    // ---- days

    int firstDay(int year, int month) {
        int day = 0;
        for (int y = 0; y < year; y++) {
            day += 354;
        }
        for (int m = 1; m < month; m++) {
            day += m % 2 == 1 ? 30 : 29;
        }
        return day;
    }

    int dayIn(int year, int month, int round) {
        int first = firstDay(year, month);
        for (int day = first; day < first + (month % 2 == 1 ? 30 : 29); day++) {
            if ((day + turn) % 60 == round) {
                return day;
            }
        }
        return -1;
    }

    int day(int guest) {
        Star star = stars.get(guest);
        return star.reign < 0 ? -1 : dayIn(star.year, star.month, star.round);
    }

    int months(int guest) {
        Star star = stars.get(guest);
        int bits = 0;
        for (int month = 12; month >= 1; month--) {
            bits = bits * 2 + (star.reign >= 0 && dayIn(star.year, month, star.round) >= 0 ? 1 : 0);
        }
        return bits;
    }

    List<Integer> years(int guest) {
        Star star = stars.get(guest);
        List<Integer> years = new ArrayList<>();
        if (star.reign >= 0) {
            int[] reign = reignYears.get(star.reign);
            for (int k = 0; k < reign[1]; k++) {
                if (dayIn(reign[0] + k, star.month, star.round) >= 0) {
                    years.add(reign[0] + k);
                }
            }
        }
        return years;
    }

    int mend(int guest, int what) {
        Star star = stars.get(guest);
        if (star.reign < 0 || day(guest) >= 0) {
            return 0;
        }
        int[] ways = new int[4];
        for (int month = 1; month <= 12; month++) {
            ways[1] += month != star.month && dayIn(star.year, month, star.round) >= 0 ? 1 : 0;
        }
        for (int year : years(guest)) {
            ways[2] += year != star.year ? 1 : 0;
        }
        for (int round = 0; round < 60; round++) {
            ways[3] += round != star.round && dayIn(star.year, star.month, round) >= 0 ? 1 : 0;
        }
        ways[0] = ways[1] + ways[2] + ways[3];
        return ways[what];
    }

    // ---- places

    int place(int guest, int reading, int what) {
        Star star = stars.get(guest);
        if (star.gate < 0) {
            return -1;
        }
        int x = gatePlaces.get(star.gate)[0];
        int y = gatePlaces.get(star.gate)[1];
        int alongX = reading % 2 == 1 ? -1 : 1;
        int alongY = reading >= 2 ? -1 : 1;
        for (int k = 0; k < star.inches; k++) {
            x += (star.side.contains("east") ? alongX : 0) - (star.side.contains("west") ? alongX : 0);
            y += (star.side.contains("north") ? alongY : 0) - (star.side.contains("south") ? alongY : 0);
            x = (x + 120) % 120;
            y = y < 0 ? 0 : y > 59 ? 59 : y;
        }
        return what == 0 ? x : y;
    }

    static int apart(int x, int y, int u, int v) {
        int way = 0;
        while ((x + way) % 120 != u && (x - way + 120) % 120 != u) {
            way++;
        }
        return Math.max(way, Math.abs(y - v));
    }

    // ---- sorts

    int sort(int guest) {
        for (int k = 0; k < sorts.size(); k++) {
            Long value = value(rules.get(k), stars.get(guest));
            if (value != null && value != 0) {
                return k;
            }
        }
        return -1;
    }

    long weight(int guest, int sort) {
        Long value = value(rules.get(sort), stars.get(guest));
        return value == null || value < 0 ? 0 : weights.get(sort) * Math.min(value, 9999);
    }

    static long least(long above, long below, int what) {
        if (below == 0) {
            return 0;
        }
        long common = java.math.BigInteger.valueOf(above).gcd(java.math.BigInteger.valueOf(below)).longValue();
        return (what == 0 ? above : below) / common;
    }

    long odds(int guest, int sort, int what) {
        long sum = 0;
        for (int k = 0; k < sorts.size(); k++) {
            sum += weight(guest, k);
        }
        return least(weight(guest, sort), sum, what);
    }

    // ---- clouds

    static int age(int s, int t, int y, int z) {
        return t > s ? Math.min(9999, s * (z - y) / (t - s)) : 9999;
    }

    int[] born(Nebula cloud, int z, int t) {
        int from = 99999;
        int to = -99999;
        for (int s = -1; s <= 1; s += 2) {
            for (int r = -1; r <= 1; r += 2) {
                int age = age(Math.max(0, cloud.s1 + s * blur), Math.max(0, t + r * blur), cloud.y1, z);
                from = Math.min(from, cloud.y1 - age);
                to = Math.max(to, cloud.y1 - age * cloud.slow / 10);
            }
        }
        return new int[] {from, to};
    }

    int born(int cloud, int what) {
        Nebula one = nebulas.get(cloud);
        int[] born = born(one, one.y2, one.s2);
        switch (what) {
            case 0: return age(one.s1, one.s2, one.y1, one.y2);
            case 1: return born[0];
            case 2: return born[1];
            case 3: return one.period < 0 ? Integer.MIN_VALUE
                : one.y2 - Math.min(9999, one.period * 100 / (2 * one.slowing));
            case 4: return one.x;
            case 5: return one.y;
            default: return Integer.MIN_VALUE;
        }
    }

    int yearToll(int guest, int cloud) {
        Star star = stars.get(guest);
        int outside = Integer.MAX_VALUE;
        for (int year = star.year; year <= star.last; year++) {
            outside = Math.min(outside, Math.max(0, Math.max(born(cloud, 1) - year, year - born(cloud, 2))));
        }
        return outside / 10;
    }

    /** The least toll by place, and by which reading. */
    int[] placeToll(int guest, int cloud) {
        Star star = stars.get(guest);
        if (star.gate < 0) {
            return new int[] {20, -1};
        }
        Nebula one = nebulas.get(cloud);
        int[] best = {Integer.MAX_VALUE, -1};
        for (int reading = 0; reading < 4; reading++) {
            boolean turnsX = reading % 2 == 1 && (star.side.contains("east") || star.side.contains("west"));
            boolean turnsY = reading >= 2 && (star.side.contains("north") || star.side.contains("south"));
            if (reading > 0 && !turnsX && !turnsY) {
                continue;
            }
            int toll = apart(place(guest, reading, 0), place(guest, reading, 1), one.x, one.y)
                + (reading == 3 ? 2 : reading > 0 ? 1 : 0) * price;
            if (toll < best[0]) {
                best = new int[] {toll, reading};
            }
        }
        return best;
    }

    int toll(int guest, int cloud) {
        return placeToll(guest, cloud)[0] + yearToll(guest, cloud);
    }

    boolean trusted(int guest) {
        return guest < known && !doubted[guest];
    }

    boolean able(int guest, int cloud) {
        return trusted(guest) && toll(guest, cloud) <= limit;
    }

    // ---- pairs: for every set of clouds taken, the best of the guests from one on (count, less toll, clouds)

    private int[][] bestKey;
    private int[][] bestCloud;

    int[] pairs() {
        int n = stars.size();
        int m = nebulas.size();
        int[][] tolls = new int[n][m];
        for (int g = 0; g < n; g++) {
            for (int c = 0; c < m; c++) {
                tolls[g][c] = able(g, c) ? toll(g, c) : -1;
            }
        }
        bestKey = new int[n + 1][1 << m];
        bestCloud = new int[n + 1][1 << m];
        for (int g = n - 1; g >= 0; g--) {
            for (int taken = 0; taken < 1 << m; taken++) {
                int key = Integer.MIN_VALUE;
                int cloud = -1;
                for (int c = 0; c < m; c++) {
                    if (tolls[g][c] >= 0 && (taken >> c & 1) == 0) {
                        int with = bestKey[g + 1][taken | 1 << c] + 100000 - tolls[g][c];
                        if (with > key) {
                            key = with;
                            cloud = c;
                        }
                    }
                }
                if (bestKey[g + 1][taken] > key) {
                    key = bestKey[g + 1][taken];
                    cloud = -1;
                }
                bestKey[g][taken] = key;
                bestCloud[g][taken] = cloud;
            }
        }
        int[] clouds = new int[n];
        int taken = 0;
        for (int g = 0; g < n; g++) {
            clouds[g] = bestCloud[g][taken];
            taken |= clouds[g] < 0 ? 0 : 1 << clouds[g];
        }
        return clouds;
    }

    int said(int cloud) {
        int[] pairs = pairs();
        int able = 0;
        int guest = -1;
        for (int g = 0; g < stars.size(); g++) {
            able += able(g, cloud) ? 1 : 0;
            guest = pairs[g] == cloud ? g : guest;
        }
        if (able == 0) {
            return 0;
        }
        if (guest < 0) {
            return 1;
        }
        if (able > 1) {
            return 2;
        }
        for (int c = 0; c < nebulas.size(); c++) {
            if (c != cloud && able(guest, c)) {
                return 3;
            }
        }
        return 4;
    }

    // ---- events

    boolean one(int a, int b) {
        Star first = stars.get(a);
        Star second = stars.get(b);
        if (first.reign < 0 || second.reign < 0 || first.year != second.year) {
            return false;
        }
        if (day(a) < 0 || day(b) < 0) {
            if (first.month != second.month) {
                return false;
            }
        } else if (Math.abs(day(a) - day(b)) > 5) {
            return false;
        }
        return first.gate < 0 || second.gate < 0
            || apart(place(a, 0, 0), place(a, 0, 1), place(b, 0, 0), place(b, 0, 1)) <= 3;
    }

    /** The least guest of the event, by walking from guest to guest. */
    int event(int guest) {
        if (!trusted(guest)) {
            return -1;
        }
        boolean[] reached = new boolean[stars.size()];
        reached[guest] = true;
        for (int round = 0; round < stars.size(); round++) {
            for (int a = 0; a < stars.size(); a++) {
                for (int b = 0; b < stars.size(); b++) {
                    if (a != b && reached[a] && trusted(b) && one(a, b)) {
                        reached[b] = true;
                    }
                }
            }
        }
        int least = 0;
        while (!reached[least]) {
            least++;
        }
        return least;
    }

    int events() {
        java.util.Set<Integer> all = new java.util.HashSet<>();
        for (int g = 0; g < stars.size(); g++) {
            if (trusted(g)) {
                all.add(event(g));
            }
        }
        return all.size();
    }

    int slips(int a, int b) {
        Star p = stars.get(a);
        Star q = stars.get(b);
        int slips = 0;
        slips += p.month != q.month ? 1 : 0;
        slips += p.round != q.round ? 1 : 0;
        slips += p.gate != q.gate ? 1 : 0;
        slips += p.inches != q.inches ? 1 : 0;
        slips += sideBits(a) != sideBits(b) ? 1 : 0;
        slips += p.lasts != q.lasts ? 1 : 0;
        slips += p.bright != q.bright ? 1 : 0;
        slips += p.moves != q.moves ? 1 : 0;
        slips += p.tail != q.tail ? 1 : 0;
        return slips;
    }

    int sideBits(int guest) {
        String side = stars.get(guest).side;
        return (side.contains("north") ? 1 : 0) + (side.contains("south") ? 2 : 0)
            + (side.contains("east") ? 4 : 0) + (side.contains("west") ? 8 : 0);
    }

    boolean from(int book, int other) {
        int source = sources.get(book);
        return source >= 0 && (source == other || from(source, other));
    }

    int copied(int guest) {
        int book = stars.get(guest).book;
        int best = -1;
        for (int g = 0; g < stars.size() && book >= 0 && trusted(guest); g++) {
            int other = stars.get(g).book;
            if (g != guest && trusted(g) && event(g) == event(guest) && other >= 0 && from(book, other)
                    && (best < 0 || slips(guest, g) < slips(guest, best))) {
                best = g;
            }
        }
        return best;
    }

    long worth(int guest, int what) {
        if (!trusted(guest)) {
            return -1;
        }
        long lacks = 1;
        long all = 1;
        for (int g = 0; g < stars.size(); g++) {
            if (event(g) == event(guest) && copied(g) < 0) {
                lacks *= 10 - stars.get(g).worth;
                all *= 10;
            }
        }
        return least(all - lacks, all, what);
    }

    int share(int year) {
        int share = 0;
        for (int[] watch : watches) {
            share = watch[0] <= year && year <= watch[1] ? Math.max(share, watch[2]) : share;
        }
        return share;
    }

    long many(int sort, int a, int b, int what) {
        java.util.Set<Integer> found = new java.util.HashSet<>();
        for (int g = 0; g < stars.size(); g++) {
            Star star = stars.get(g);
            if (trusted(g) && star.reign >= 0 && star.year >= a && star.year <= b && share(star.year) > 0
                    && (sort < 0 || sort(g) == sort)) {
                found.add(event(g));
            }
        }
        long shares = 0;
        for (int year = a; year <= b; year++) {
            shares += share(year);
        }
        return least(found.size() * 10L * (b - a + 1), shares, what);
    }

    long untold(int cloud, int what) {
        long above = 0;
        long below = 0;
        for (int year = 0; year <= 1999; year++) {
            if (born(cloud, 1) <= year && year <= born(cloud, 2)) {
                above += 120 - share(year) * Integer.bitCount(seen(nebulas.get(cloud).x));
                below += 120;
            }
        }
        return least(above, below, what);
    }

    int next(int year, int what) {
        int best = -1;
        int most = 0;
        for (int c = 0; c < nebulas.size(); c++) {
            Nebula one = nebulas.get(c);
            if (one.y2 < year) {
                int size = one.s2 + (one.s2 - one.s1) * (year - one.y2) / (one.y2 - one.y1);
                int[] then = born(one, year, size);
                int narrower = born(c, 2) - born(c, 1) - (then[1] - then[0]);
                if (narrower > most) {
                    most = narrower;
                    best = c;
                }
            }
        }
        return best < 0 ? -1 : what == 0 ? best : most;
    }

    long chance(int d, int what) {
        int near = 0;
        for (Nebula one : nebulas) {
            for (int x = 0; x < 120; x++) {
                for (int y = 0; y < 60; y++) {
                    near += apart(x, y, one.x, one.y) <= d ? 1 : 0;
                }
            }
        }
        return least(near, 7200, what);
    }

    static int sun(int day) {
        return day % 354 * 120 / 354;
    }

    int hidden(int guest) {
        if (stars.get(guest).gate < 0 || day(guest) < 0) {
            return -1;
        }
        return apart(place(guest, 0, 0), 0, sun(day(guest)), 0) <= 10 ? 1 : 0;
    }

    int seen(int x) {
        int bits = 0;
        for (int month = 1; month <= 12; month++) {
            if (apart(x, 0, sun(firstDay(0, month) + 14), 0) > 10) {
                bits += 1 << month - 1;
            }
        }
        return bits;
    }

    // ---- draws

    private long dice;

    private int roll() {
        dice = (dice * 1103515245L + 12345L) % (1L << 31);
        return (int) (dice / 65536);
    }

    int draws(int seed, int many, int d) {
        dice = seed;
        int found = 0;
        for (int k = 0; k < many; k++) {
            int x = roll() % 120;
            int y = roll() % 60;
            boolean near = false;
            for (Nebula one : nebulas) {
                near |= apart(x, y, one.x, one.y) <= d;
            }
            found += near ? 1 : 0;
        }
        return found;
    }

    int luck(int seed, int many) {
        dice = seed;
        int goal = 0;
        for (int cloud : pairs()) {
            goal += cloud >= 0 ? 1 : 0;
        }
        int found = 0;
        for (int k = 0; k < many; k++) {
            int[] able = new int[stars.size()];
            for (int g = 0; g < stars.size(); g++) {
                boolean gate = stars.get(g).gate >= 0;
                int x = gate ? roll() % 120 : 0;
                int y = gate ? roll() % 60 : 0;
                for (int c = 0; c < nebulas.size(); c++) {
                    int toll = (gate ? apart(x, y, nebulas.get(c).x, nebulas.get(c).y) : 20) + yearToll(g, c);
                    able[g] |= trusted(g) && toll <= limit ? 1 << c : 0;
                }
            }
            found += reachable(able) >= goal ? 1 : 0;
        }
        return found;
    }

    /** The most pairs, over all sets of clouds that the guests so far could take. */
    private int reachable(int[] able) {
        boolean[] sets = new boolean[1 << nebulas.size()];
        sets[0] = true;
        for (int bits : able) {
            boolean[] then = sets.clone();
            for (int set = 0; set < sets.length; set++) {
                for (int c = 0; c < nebulas.size() && sets[set]; c++) {
                    if ((bits & ~set & 1 << c) != 0) {
                        then[set | 1 << c] = true;
                    }
                }
            }
            sets = then;
        }
        int most = 0;
        for (int set = 0; set < sets.length; set++) {
            most = sets[set] ? Math.max(most, Integer.bitCount(set)) : most;
        }
        return most;
    }
}
