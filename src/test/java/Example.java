/** How the class is used: README.md shows this file and what it prints. */
public final class Example {
    public static void main(String[] args) {
        ReasonCloser x = new ReasonCloser();
        show("text", read(x, "fun a 0;fun b 0;fun g 1;term p=a;term q=b;term s=g(p);term t=g(q);diff s t"));

        show("would p, q be one: GROUPS", x.would(0, 1, 0));
        show("the DIFF that would clash", x.would(0, 1, 1));
        show("join p, q: GROUPS", x.join(0, 1));
        show("are s, t one", x.equal(2, 3));
        show("by which SAMES (bits)", x.reasons(2, 3));
        show("the DIFF that clashes", x.about(7));
        show("by the fewest SAMES (bits)", x.core());
        show("undone", x.undo() ? 1 : 0);
        show("are s, t one", x.equal(2, 3));

        show("why they are", x.reasons(2, 3));
        show("refused by", x.trouble());
        show("a text that is torn", read(x, "fun a 0;term p=c"));
        show("refused by", x.trouble());
        show("its FAULT", x.fault());
        show("at which byte", x.where());
        show("TERMS still", x.about(1));
    }

    /** Feeds a text by twenty bytes, with blanks behind it, and reads it. */
    private static int read(ReasonCloser x, String text) {
        for (int at = 0; at < text.length(); at += 20) {
            int[] four = new int[5];
            for (int k = 0; k < 20; k++) {
                four[k / 4] = four[k / 4] << 8 | (at + k < text.length() ? text.charAt(at + k) : ' ');
            }
            x.feed(four[0], four[1], four[2], four[3], four[4]);
        }
        return x.text(text.length());
    }

    private static void show(String what, int answer) {
        System.out.println(what + ": " + answer);
    }
}
