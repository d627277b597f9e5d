/** What the tests share: feeding texts, and counting answers that are not the ones that are due. */
final class Checks {
    private int wrong = 0;
    private int made = 0;

    void due(String call, long got, long want) {
        made++;
        if (got != want) {
            wrong++;
            if (wrong <= 40) {
                System.out.println(call + " answered " + got + ", due is " + want);
            }
        }
    }

    void due(String call, boolean got, boolean want) {
        due(call, got ? 1 : 0, want ? 1 : 0);
    }

    void finish(String name) {
        System.out.println(name + ": " + made + " checks, " + wrong + " wrong");
        if (wrong != 0) {
            System.exit(1);
        }
    }

    /** Feeds a text, filled up with blanks to whole feeds. */
    static void feed(GuestStars stars, String text) {
        for (int k = 0; k < text.length(); k += 20) {
            stars.feed(word(text, k), word(text, k + 4), word(text, k + 8), word(text, k + 12), word(text, k + 16));
        }
    }

    static int tell(GuestStars stars, String text) {
        feed(stars, text);
        return stars.text(text.length());
    }

    /** A new object that was told a text without a fault. */
    GuestStars told(String text) {
        GuestStars stars = new GuestStars();
        int lines = tell(stars, text);
        int want = 0;
        for (int k = 0; k < text.length(); k++) {
            want += text.charAt(k) == ';' ? 1 : 0;
        }
        due("text of " + text, lines, want);
        return stars;
    }

    private static int word(String text, int from) {
        int bytes = 0;
        for (int k = from; k < from + 4; k++) {
            bytes = bytes << 8 | (k < text.length() ? text.charAt(k) & 255 : 32);
        }
        return bytes;
    }

    /** Letters of a name as named() takes them. */
    static int letters(String name) {
        int bits = 0;
        for (int k = 0; k < 6; k++) {
            bits = bits << 5 | (k < name.length() ? name.charAt(k) - 'a' + 1 : 0);
        }
        return bits;
    }
}
