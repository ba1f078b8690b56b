/** What a test expects; the test ends with exit code 1 if an answer was another one. */
final class Due {
    private int checked;
    private int wrong;

    void is(String call, long got, long want) {
        checked++;
        if (got != want) {
            wrong++;
            System.out.println(call + " answered " + got + ", due is " + want);
        }
    }

    void holds(String what, boolean true_) {
        is(what, true_ ? 1 : 0, 1);
    }

    void end() {
        System.out.println(checked + " answers, " + wrong + " not as due");
        if (wrong != 0) {
            System.exit(1);
        }
    }

    /** A NAME as a number. */
    static int name(String letters) {
        int n = 0;
        for (int i = 0; i < letters.length(); i++) {
            n = n * 27 + letters.charAt(i) - 'a' + 1;
        }
        return n;
    }

    /** Feeds a text: the last answer of feed(). */
    static int feed(SherdCity city, String text) {
        int answer = 0;
        for (int at = 0; at < text.length(); at += 8) {
            int n = Math.min(8, text.length() - at);
            long eight = 0;
            for (int i = n - 1; i >= 0; i--) {
                eight = eight << 8 | text.charAt(at + i);
            }
            answer = city.feed(eight, n);
        }
        return answer;
    }

    static int read(SherdCity city, int law, String text) {
        feed(city, text);
        return city.read(law);
    }

    /** Reads a text as LAW 0 and makes it THE LAW. */
    static void rule(SherdCity city, String text) {
        if (read(city, 0, text) < 0) {
            throw new IllegalStateException("not a law: " + text);
        }
        city.force(0);
    }

    /** A man in ward 0. */
    static int man(SherdCity city, int club, String name) {
        return city.man(0, club, name(name), name("pa"));
    }

    static int sherd(SherdCity city, String name, int gate) {
        return city.sherd(name(name), 0, -1, gate, 0, 0);
    }
}
