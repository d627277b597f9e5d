import java.util.ArrayList;
import java.util.List;
import java.util.NoSuchElementException;

/** All that can be asked of an object without changing it, within and beyond what it was told. */
final class Answers {
    /** A way to come to an object in some state. */
    interface Way {
        GuestStars made();
    }

    /** An object is asked less than its 512 calls; then another one takes its place. */
    private static final int ASKED = 400;
    private static final int[] MANY = {-1, 0, 1, 2, 3, 4, 5, 6, 7, 8, 9, 10, 11, 12};

    private final List<String> names = new ArrayList<>();
    private final List<Checks.Question> questions = new ArrayList<>();

    Answers() {
        plain();
        guests();
        clouds();
        two();
        three();
    }

    private void ask(String name, Checks.Question question) {
        names.add(name);
        questions.add(question);
    }

    String name(int k) {
        return names.get(k);
    }

    long[] of(Way way) {
        long[] answers = new long[questions.size()];
        GuestStars stars = null;
        for (int k = 0; k < answers.length; k++) {
            if (k % ASKED == 0) {
                stars = way.made();
            }
            answers[k] = questions.get(k).of(stars);
        }
        return answers;
    }

    private void plain() {
        ask("events()", stars -> stars.events());
        ask("doubted()", stars -> stars.doubted());
        for (int number = -1; number <= 13; number++) {
            int n = number;
            ask("count(" + n + ")", stars -> stars.count(n));
            ask("pairs(" + n + ")", stars -> stars.pairs(n));
        }
        for (int number : new int[] {-1, 0, 59, 60, 100, 1000, 1959, 1999, 2000, 2999, 3000, 707999, 708000}) {
            ask("round(" + number + ")", stars -> stars.round(number));
            ask("sun(" + number + ")", stars -> stars.sun(number));
            ask("share(" + number + ")", stars -> stars.share(number));
            ask("seen(" + number + ")", stars -> stars.seen(number));
            for (int what = -1; what <= 2; what++) {
                int asked = what;
                ask("next(" + number + ", " + what + ")", stars -> stars.next(number, asked));
                ask("chance(" + number + ", " + what + ")", stars -> stars.chance(number, asked));
            }
        }
    }

    private void guests() {
        for (int g : MANY) {
            ask("day(" + g + ")", stars -> stars.day(g));
            ask("months(" + g + ")", stars -> stars.months(g));
            ask("sort(" + g + ")", stars -> stars.sort(g));
            ask("pair(" + g + ")", stars -> stars.pair(g));
            ask("event(" + g + ")", stars -> stars.event(g));
            ask("copied(" + g + ")", stars -> stars.copied(g));
            ask("hidden(" + g + ")", stars -> stars.hidden(g));
            for (int number = -2; number <= 13; number++) {
                int n = number;
                ask("look(" + g + ", " + n + ")", stars -> looked(stars, g, n));
                ask("years(" + g + ", " + n + ")", stars -> stars.years(g, n));
            }
            for (int number = -1; number <= 4; number++) {
                int n = number;
                ask("mend(" + g + ", " + n + ")", stars -> stars.mend(g, n));
                ask("place(" + g + ", " + n + ", 0)", stars -> stars.place(g, n, 0));
                ask("place(" + g + ", " + n + ", 1)", stars -> stars.place(g, n, 1));
                ask("worth(" + g + ", " + n + ")", stars -> stars.worth(g, n));
            }
        }
    }

    private static long looked(GuestStars stars, int guest, int what) {
        try {
            return stars.look(guest, what);
        } catch (IndexOutOfBoundsException e) {
            return Long.MIN_VALUE;
        } catch (NoSuchElementException e) {
            return Long.MAX_VALUE;
        }
    }

    private void clouds() {
        for (int c : MANY) {
            ask("said(" + c + ")", stars -> stars.said(c));
            for (int number = -1; number <= 6; number++) {
                int n = number;
                ask("born(" + c + ", " + n + ")", stars -> stars.born(c, n));
                ask("untold(" + c + ", " + n + ")", stars -> stars.untold(c, n));
            }
        }
    }

    private void two() {
        for (int a : MANY) {
            for (int b : MANY) {
                ask("toll(" + a + ", " + b + ")", stars -> stars.toll(a, b));
                ask("reading(" + a + ", " + b + ")", stars -> stars.reading(a, b));
                ask("one(" + a + ", " + b + ")", stars -> stars.one(a, b));
                ask("slips(" + a + ", " + b + ")", stars -> stars.slips(a, b));
                ask("from(" + a + ", " + b + ")", stars -> stars.from(a, b));
            }
        }
        for (int what = -1; what <= 4; what++) {
            for (String name : new String[] {"a", "b", "c", "f", "g", "h", "j", "r", "q", "han", "well", "star"}) {
                int asked = what;
                ask("named(" + what + ", " + name + ")", stars -> stars.named(asked, Checks.letters(name)));
            }
        }
        for (int seed : new int[] {-1, 0, 1, 7, 2147483647}) {
            ask("luck(" + seed + ")", stars -> stars.luck(seed, 20));
            ask("draws(" + seed + ")", stars -> stars.draws(seed, 500, 9));
        }
    }

    private void three() {
        for (int s = -2; s <= 7; s++) {
            int sort = s;
            for (int what = -1; what <= 2; what++) {
                int asked = what;
                for (int g : MANY) {
                    ask("odds(" + g + ", " + s + ", " + what + ")", stars -> stars.odds(g, sort, asked));
                }
                ask("many(" + s + ", 0, 1999, " + what + ")", stars -> stars.many(sort, 0, 1999, asked));
                ask("many(" + s + ", 100, 119, " + what + ")", stars -> stars.many(sort, 100, 119, asked));
                ask("many(" + s + ", 119, 100, " + what + ")", stars -> stars.many(sort, 119, 100, asked));
            }
        }
    }
}
