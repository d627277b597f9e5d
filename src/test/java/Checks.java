/** What the tests share: feeding texts, and counting answers that are not the ones that are due. */
final class Checks {
    /** A call of the face with one of its numbers left open. */
    interface Call {
        long with(int number);
    }

    /** A question to an object. */
    interface Question {
        long of(GuestStars stars);
    }

    private int wrong = 0;
    private int made = 0;
    private int sentences = 0;
    private String sentence = "";

    /** A call that doesn't end must fail its test, not hold up all others: a test has five minutes. */
    Checks() {
        Thread watch = new Thread(this::haltLater);
        watch.setDaemon(true);
        watch.start();
    }

    private void haltLater() {
        try {
            Thread.sleep(300000);
        } catch (InterruptedException e) {
            return;
        }
        System.out.println(sentence + "a call did not end");
        Runtime.getRuntime().halt(1);
    }

    /** The document's sentence that the checks from here on are about. */
    void sentence(String words) {
        sentences++;
        sentence = words + ": ";
    }

    void due(String call, long got, long want) {
        made++;
        if (got != want) {
            wrong++;
            if (wrong <= 40) {
                System.out.println(sentence + call + " answered " + got + ", due is " + want);
            }
        }
    }

    void due(String call, boolean got, boolean want) {
        due(call, got ? 1 : 0, want ? 1 : 0);
    }

    /** A call with each of the numbers that are no number of one of so many things. */
    void refused(String call, int size, long answer, Call open) {
        for (int number : new int[] {-1, -2, Integer.MIN_VALUE, size, size + 1, Integer.MAX_VALUE}) {
            due(call + " with " + number, open.with(number), answer);
        }
    }

    /** A call with each number below the least and above the greatest. */
    void refusedOutside(String call, int least, int greatest, long answer, Call open) {
        if (least > Integer.MIN_VALUE) {
            due(call + " with " + (least - 1), open.with(least - 1), answer);
            due(call + " with the least int", open.with(Integer.MIN_VALUE), answer);
        }
        if (greatest < Integer.MAX_VALUE) {
            due(call + " with " + (greatest + 1), open.with(greatest + 1), answer);
            due(call + " with the greatest int", open.with(Integer.MAX_VALUE), answer);
        }
    }

    /** A call for each number from 0 on, with its answers. */
    void row(String call, long[] want, Call open) {
        for (int k = 0; k < want.length; k++) {
            due(call + " with " + k, open.with(k), want[k]);
        }
    }

    void finish(String name) {
        System.out.println(name + ": " + (sentences > 0 ? sentences + " sentences, " : "") + made + " checks, " + wrong + " wrong");
        if (wrong != 0) {
            System.exit(1);
        }
    }

    /** Feeds a text, filled up with blanks to whole feeds. */
    static void feed(GuestStars stars, String text) {
        for (int k = 0; k < text.length(); k += 20) {
            stars.feed(word(text, k), word(text, k + 4), word(text, k + 8), word(text, k + 12), word(text, k + 16));
        }
    }

    static int tell(GuestStars stars, String text) {
        feed(stars, text);
        return stars.text(text.length());
    }

    /** A new object that was told a text without a fault. */
    GuestStars told(String text) {
        GuestStars stars = new GuestStars();
        int lines = tell(stars, text);
        int want = 0;
        for (int k = 0; k < text.length(); k++) {
            want += text.charAt(k) == ';' ? 1 : 0;
        }
        due("text of " + text, lines, want);
        return stars;
    }

    /** A text that has no fault. */
    void fine(String text) {
        GuestStars stars = told(text);
        due("fault of " + text, stars.fault(0), 0);
        due("place of " + text, stars.fault(1), -1);
    }

    /** A text with a fault, the place of which is marked by a '|' (that isn't in the text). */
    void fault(int kind, String marked) {
        int place = marked.indexOf('|');
        String text = marked.substring(0, place) + marked.substring(place + 1);
        GuestStars stars = new GuestStars();
        due("text of " + marked, tell(stars, text), -1);
        due("fault of " + marked, stars.fault(0), kind);
        due("place of " + marked, stars.fault(1), place);
    }

    private static int word(String text, int from) {
        int bytes = 0;
        for (int k = from; k < from + 4; k++) {
            bytes = bytes << 8 | (k < text.length() ? text.charAt(k) & 255 : 32);
        }
        return bytes;
    }

    /** Letters of a name as named() takes them. */
    static int letters(String name) {
        int bits = 0;
        for (int k = 0; k < 6; k++) {
            bits = bits << 5 | (k < name.length() ? name.charAt(k) - 'a' + 1 : 0);
        }
        return bits;
    }
}
