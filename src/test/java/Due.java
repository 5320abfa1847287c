/** What the tests share: telling answers that aren't the ones that are due, and texts fed by twenty bytes. */
final class Due {
    private int asked;
    private int wrong;
    private String begun = "";

    /** Of what the following answers are told; empty if of nothing beyond what they say themselves. */
    void begin(String test) {
        begun = test.isEmpty() ? "" : test + ": ";
    }

    void is(String what, long got, long want) {
        asked++;
        if (got != want) {
            wrong++;
            if (wrong <= 50) {
                System.out.println(begun + what + " answered " + got + ", due is " + want);
            }
        }
    }

    void yes(String what, boolean so) {
        is(what, so ? 1 : 0, 1);
    }

    /** A call that is refused: its answer, then TROUBLE and where(). */
    void refused(ReasonCloser x, String what, int got, int trouble) {
        is(what, got, ReasonCloser.NONE);
        is(what + ", then trouble()", x.trouble(), trouble);
        is(what + ", then where()", x.where(), ReasonCloser.NONE);
    }

    /** A call that isn't refused: its answer, then TROUBLE. */
    void told(ReasonCloser x, String what, int got, int want) {
        is(what, got, want);
        is(what + ", then trouble()", x.trouble(), 0);
    }

    int wrong() {
        return wrong;
    }

    void end() {
        if (wrong > 0) {
            System.out.println(wrong + " wrong");
            System.exit(1);
        }
        System.out.println("all " + asked + " answers are as due");
    }

    /** Feeds a text, with blanks behind it up to a multiple of twenty bytes. */
    static void feed(ReasonCloser x, String text) {
        for (int at = 0; at < text.length(); at += 20) {
            x.feed(four(text, at), four(text, at + 4), four(text, at + 8), four(text, at + 12), four(text, at + 16));
        }
    }

    static int four(String text, int at) {
        int number = 0;
        for (int k = at; k < at + 4; k++) {
            number = number << 8 | (k < text.length() ? text.charAt(k) & 255 : ' ');
        }
        return number;
    }

    /** Feeds a text to an empty TAPE and reads it: what text() answers. */
    static int read(ReasonCloser x, String text) {
        feed(x, text);
        return x.text(text.length());
    }

    static ReasonCloser object(String text) {
        ReasonCloser x = new ReasonCloser();
        if (read(x, text) < 0) {
            System.out.println("refused with FAULT " + x.fault() + " at " + x.where() + ": " + text);
        }
        return x;
    }
}
