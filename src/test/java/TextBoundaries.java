import java.util.ArrayList;
import java.util.List;

/** Boundary cases of THE TAPE and THE TEXT: what part I of the document says, and promises 1 to 5, 37, 38. */
final class TextBoundaries {
    private static final int LOW = Integer.MIN_VALUE;
    private static final int TOP = Integer.MAX_VALUE;
    private static final String WORDS_KEPT = "fun|term|same|diff";

    /** FUNCTIONS z g h k take 0 1 2 3; TERMS p and q. */
    private static final String BASE = "fun z 0;fun g 1;fun h 2;fun k 3;term p=z;term q=g(p);";

    /** All places where a NAME may stand: what is ahead of it and what makes a TEXT of it. */
    private static final String[][] NAME_PLACES = {{"fun ", " 0"}, {"term ", "=z"}, {"term w=", ""}, {"term w=g(", ")"},
        {"term w=h(p,", ")"}, {"same ", " q"}, {"same p ", ""}, {"diff ", " q"}, {"diff p ", ""}};

    /** One of each of the calls that may be refused, which isn't. */
    static final Beside.Ask[] CALLS_THAT_MAY_BE_REFUSED = {
        x -> x.about(0), x -> x.function(0, 0), x -> x.term(0, 0), x -> x.partOf(0, 0), x -> x.sameOf(0, 0),
        x -> x.diffOf(0, 0), x -> x.joinOf(0, 0), x -> x.height(0), x -> x.hung(0, 0), x -> x.equal(0, 1),
        x -> x.apart(0, 1), x -> x.reasons(0, 0), x -> x.pruned(0, 0), x -> x.fewest(0, 0), x -> x.proves(0, 0, 0),
        x -> x.since(0, 0), x -> x.needed(0, 0), x -> x.many(0, 0), x -> x.level(0, 0), x -> x.cost(0, 0),
        x -> x.way(0, 0, 0), x -> x.would(0, 0, 0), x -> x.next(0, 0, 0, 0), x -> x.without(0, 0), x -> x.join(0, 0),
        x -> x.part(0, 0), x -> x.make(0, 0, 0, 0), x -> Due.read(x, "fun a 0")};

    private final Book book;
    private final Due due;

    TextBoundaries(Book book, Due due) {
        this.book = book;
        this.due = due;
    }

    void all() {
        bytesAndTokens();
        lines();
        counts();
        faults();
        calls();
        names();
    }

    private ReasonCloser good(String text) {
        ReasonCloser x = new ReasonCloser();
        int told = Due.read(x, text);
        due.is(text + ": trouble() " + x.fault() + " at " + x.where(), x.trouble(), 0);
        due.is(text + ": fault()", x.fault(), 0);
        due.is(text + ": where()", x.where(), -1);
        due.is(text + ": TERMS", told, x.about(1));
        return x;
    }

    private void bad(String text, int fault, int place) {
        ReasonCloser x = new ReasonCloser();
        due.is(text, Due.read(x, text), -1);
        due.is(text + ": trouble()", x.trouble(), 4);
        due.is(text + ": fault()", x.fault(), fault);
        due.is(text + ": where()", x.where(), place);
    }

    private static String blanks(int n) {
        return " ".repeat(n);
    }

    /** So many LINES, in which # is another NAME each time. */
    private static String lines(String line, int times) {
        StringBuilder all = new StringBuilder();
        for (int k = 0; k < times; k++) {
            String name = k < 20 ? "" + (char) ('a' + k) : "n" + (char) ('a' + k);
            all.append(k == 0 ? "" : ";").append(line.replace("#", name));
        }
        return all.toString();
    }

    // ---- I, ahead of the LINES

    private void bytesAndTokens() {
        book.test("I", "THE TAPE has 500 bytes", () -> {
            String ahead = "fun a 0;term p=a;term q=";
            String text = ahead + blanks(499 - ahead.length()) + "a";
            due.is("a TEXT that fills it", good(text).about(1), 2);
            bad(text.substring(0, 499), 1, 499);
            bad(blanks(500), 1, 500);
        });
        book.test("I", "blanks, 32, part TOKENS and mean nothing else", () -> {
            eachByte("fun", "a 0", ' ', "abcdefghijklmnopqrstuvwxyz", 0);
            eachByte("", "fun a 0", ' ', "", 0);
            due.is("as many as THE TAPE holds", good("fun" + blanks(494) + "a 0").about(0), 1);
            due.is("ahead", good(blanks(493) + "fun a 0").about(0), 1);
            due.is("behind", good("fun a 0" + blanks(493)).about(0), 1);
            good(" fun  a   0  ;   term  p =  a   ; same p  p ;diff  p p  ");
            good("fun a0;fun g1;term p=a;term q=g(p);same p q");
            bad("fun a 0;term p=a;same pp", 3, 22);
        });
        book.test("I", "WORDS of 1 to 6 small letters that stand together", () -> {
            for (int many = 1; many <= 6; many++) {
                String name = "abcdef".substring(0, many);
                due.is(name, good("fun a" + name.substring(1) + " 0;term x=" + name).about(1), 1);
            }
            for (char letter = 'a'; letter <= 'z'; letter++) {
                good("fun " + letter + " 0;term " + letter + letter + "=" + letter);
            }
            bad("fun abc def 0", 1, 8);
        });
        book.test("I", "WHOLES of one digit that do (two digits together begin none)", () -> {
            for (char first = '0'; first <= '9'; first++) {
                for (char second = '0'; second <= '9'; second++) {
                    bad("fun a " + first + second, 1, 6);
                }
            }
            bad("fun a 0 0", 1, 8);
            bad("fun a 000", 1, 6);
            good("fun a0");
        });
        book.test("I", "single ones of ; , = ( )", () -> {
            eachByte(BASE + "term w", "z", '=', "", 0);
            eachByte(BASE + "term w=g", "p)", '(', ";", 5);
            eachByte(BASE + "term w=h(p", "q)", ',', ")", 5);
            eachByte(BASE + "term w=g(p", "", ')', ",", 5);
            eachByte(BASE + "term w=z", "fun y 0", ';', "(", 5);
            for (String two : new String[] {";;", "==", "((", "))", ",,"}) {
                String ahead = "term w=h(p,q)";
                int at = ";=(),".indexOf(two.charAt(0)) < 0 ? -1 : two.equals(";;") ? ahead.length() : ahead.indexOf(two.charAt(0));
                String torn = ahead.substring(0, at) + two + ahead.substring(Math.min(ahead.length(), at + 1));
                bad(BASE + torn, 1, BASE.length() + at + 1);
            }
        });
    }

    /** In one place of a TEXT one byte does; blanks and what isn't looked at here aside, others have a FAULT there. */
    private void eachByte(String ahead, String behind, char does, String others, int otherFault) {
        for (int b = 0; b < 256; b++) {
            char c = (char) b;
            String text = ahead + c + behind;
            boolean parts = c == ' ' || c >= 'a' && c <= 'z' || c >= '0' && c <= '9';
            if (c == does) {
                good(text);
            } else if (others.indexOf(c) >= 0 && otherFault > 0) {
                bad(text, otherFault, ahead.length());
            } else if (!parts) {
                bad(text, 1, ahead.length());
            }
        }
    }

    // ---- I, the LINES

    private void lines() {
        book.test("I", "LINE {; LINE}", () -> {
            good("fun a 0");
            good("fun a 0;fun b 0");
            bad("fun a 0;", 1, 8);
            bad("fun a 0;   ", 1, 11);
            bad(";fun a 0", 1, 0);
            bad("fun a 0;;fun b 0", 1, 8);
            bad("fun a 0 fun b 0", 1, 8);
            String terms = "ijklmnopqrstuvwxyz".replaceAll(".", ";term $0=a") + "ABCDEF".replaceAll(".", ";term z$0=a").toLowerCase();
            String all = lines("fun # 0", 8) + terms + ";same i j".repeat(12) + ";diff i j".repeat(8);
            ReasonCloser x = good(all + blanks(500 - all.length()));
            due.is("all LINES that there may be: fun", x.about(0), 8);
            due.is("all LINES that there may be: term", x.about(1), 24);
            due.is("all LINES that there may be: same", x.about(2), 12);
            due.is("all LINES that there may be: diff", x.about(3), 8);
        });
        for (String[] form : new String[][] {{"fun NAME WHOLE", "fun w 2"}, {"term NAME = NAME [( NAME {, NAME} )]", "term w = k ( p , q , p )"},
            {"same NAME NAME (a SAME: two TERMS are one", "same p q"}, {"diff NAME NAME (a DIFF: two TERMS are to be apart", "diff p q"}}) {
            book.test("I", form[0], () -> tornLines(form[1].split(" ")));
        }
        book.test("I", "it takes 0 .. 3", () -> {
            for (int takes = 0; takes <= 3; takes++) {
                due.is("takes", good("fun a " + takes).function(0, 0), takes);
            }
            for (int takes = 4; takes <= 9; takes++) {
                bad("fun a " + takes, 2, 6);
            }
        });
        book.test("I", "a FUNCTION of TERMS told ahead, as many as it takes, its PARTS", () -> {
            String[] told = {"z", "g(p)", "h(p,q)", "k(p,q,p)"};
            for (int takes = 0; takes < 4; takes++) {
                ReasonCloser x = good(BASE + "term w=" + told[takes]);
                for (int k = 0; k < takes; k++) {
                    due.is(told[takes] + " PART " + k, x.partOf(2, k), k % 2);
                }
                due.is(told[takes] + " PART beyond", x.partOf(2, takes), -2);
            }
            good(BASE + "term w=g(q);term v=g(w)");
            bad(BASE + "term w=g(w)", 3, BASE.length() + 9);
            bad(BASE + "term w=g(v);term v=z", 3, BASE.length() + 9);
        });
        book.test("I", "without ( ) if it takes 0", () -> {
            good(BASE + "term w=z");
            bad(BASE + "term w=z()", 5, BASE.length() + 8);
            bad(BASE + "term w=z(p)", 5, BASE.length() + 8);
        });
        book.test("I", "NAMES are WORDS but fun, term, same, diff", () -> {
            for (String[] place : NAME_PLACES) {
                for (String kept : WORDS_KEPT.split("\\|")) {
                    bad(BASE + place[0] + kept + place[1], 1, BASE.length() + place[0].length());
                }
            }
            for (String near : "fu,funs,fum,ter,terms,tern,sam,sames,sane,dif,diffs,diffe,nuf,uf".split(",")) {
                good("fun o 0;term " + near + "=o;same " + near + " " + near);
                good("fun " + near + " 0;term x=" + near);
            }
        });
        book.test("I", "each told once (of FUNCTIONS, TERMS together)", () -> {
            bad(BASE + "fun k 0", 3, BASE.length() + 4);
            bad(BASE + "fun q 0", 3, BASE.length() + 4);
            bad(BASE + "term z=z", 3, BASE.length() + 5);
            bad(BASE + "term q=z", 3, BASE.length() + 5);
            good(BASE + "term pp=z;term ppp=z;fun qq 0;term a=qq;term aa=qq");
            good("fun abcdef 0;fun abcdee 0;fun bbcdef 0;term abcde=abcdef;term bcdef=abcdee");
        });
        book.test("I", "FUNCTIONS, TERMS, SAMES, DIFFS are numbered from 0, each for itself, as they are told", () -> {
            ReasonCloser x = good("fun b 0;term q=b;same q q;diff q q;fun a 1;term p=a(q);same p q;diff q p");
            due.is("FUNCTION 0", x.function(0, 0), 0);
            due.is("FUNCTION 1", x.function(1, 0), 1);
            due.is("TERM 0", x.term(0, 0), 0);
            due.is("TERM 1", x.term(1, 0), 1);
            due.is("SAME 0", x.sameOf(0, 0), 0);
            due.is("SAME 1", x.sameOf(1, 0), 1);
            due.is("DIFF 0", x.diffOf(0, 1), 0);
            due.is("DIFF 1", x.diffOf(1, 1), 1);
        });
    }

    /** A LINE as it is told, then with each of its TOKENS left out, and with each of them twice. */
    private void tornLines(String[] tokens) {
        good(BASE + String.join(" ", tokens));
        good(BASE + String.join("   ", tokens) + " ;fun x 0");
        for (int k = 0; k < tokens.length; k++) {
            List<String> less = new ArrayList<>(List.of(tokens));
            less.remove(k);
            String gone = String.join(" ", less);
            // of two NAMES side by side the other one stands in the place of the one that is left out: the end comes too soon
            boolean twoNames = tokens.length == 3 && tokens[0].matches("same|diff") && k > 0;
            int at = twoNames ? gone.length() : String.join(" ", less.subList(0, k)).length() + (k > 0 && k < less.size() ? 1 : 0);
            bad(BASE + gone, 1, BASE.length() + at);
            List<String> more = new ArrayList<>(List.of(tokens));
            more.add(k, tokens[k]);
            int first = twoNames ? tokens.length : k + 1;
            bad(BASE + String.join(" ", more), 1, BASE.length() + String.join(" ", more.subList(0, first)).length() + 1);
        }
    }

    /** How many there may be of each kind: that many, and one more at that WORD. */
    private void counts() {
        String[][] kinds = {{"0", "", "fun # 0", "8", "a FUNCTION: it takes 0 .. 3; up to 8)"},
            {"1", "fun o 0;", "term z# = o", "24", "up to 24)"}, {"2", "fun o 0;term p=o;", "same p p", "12", "up to 12)"},
            {"3", "fun o 0;term p=o;", "diff p p", "8", "two TERMS are to be apart; up to 8)"}};
        for (String[] kind : kinds) {
            int most = Integer.parseInt(kind[3]);
            String word = kind[2].substring(0, kind[2].indexOf(' '));
            for (String words : new String[] {kind[4], "a ninth fun, a 25th term, a 13th same, a ninth diff, at that WORD"}) {
                book.test("I", words, () -> {
                    String full = kind[1] + lines(kind[2], most);
                    due.is("the most of " + word, good(full).about(Integer.parseInt(kind[0])), most);
                    bad(full + ";" + word, 4, full.length() + 1);
                    bad(full + ";  " + word + " " + word, 4, full.length() + 3);
                    bad(full + ";" + kind[2].replace("#", "y"), 4, full.length() + 1);
                    bad(full + ";" + word + "#", 4, full.length() + 1);
                    bad(full + " " + word, 1, full.length() + 1);
                });
            }
        }
    }

    // ---- I, FAULTS

    private void faults() {
        book.test("I", "Told is the first TOKEN, from the left, at which one of these is found", () -> {
            bad("fun a 4;;", 2, 6);
            bad("fun a 4#", 2, 6);
            bad("fun a 0;term p=x=", 3, 15);
            bad("fun a 0;term p=a();fun a 9", 5, 16);
            bad("fun a 0;fun a abcdefg", 3, 12);
            bad(lines("fun # 0", 8) + ";fun a 4", 4, 64);
            bad("# fun a 4", 1, 0);
        });
        book.test("I", "if several are found at it, the least number", () -> {
            bad("fun a 44", 1, 6);
            bad("fun a 0 4", 1, 8);
            bad("4", 1, 0);
            bad(BASE + "term w=g()", 1, BASE.length() + 9);
            bad(BASE + "term w=k(p,q;", 1, BASE.length() + 12);
            bad(BASE + "term w=k(p,q", 1, BASE.length() + 12);
            bad(BASE + "same p q q", 1, BASE.length() + 9);
            bad(BASE + "fun w x", 1, BASE.length() + 6);
            bad(lines("fun # 0", 8) + " fun", 1, 64);
        });
        book.test("I", "a byte that begins no TOKEN", () -> {
            for (char c : new char[] {0, 9, 10, 13, 31, 33, 39, 42, 43, 45, 46, 47, 58, 60, 62, 64, 'A', 'F', 'Z', 91, 96, 123,
                127, 128, 160, 224, 255}) {
                bad("" + c, 1, 0);
                bad("fun a 0" + c, 1, 7);
                bad("fun a 0;" + c, 1, 8);
                bad("fun a" + c + " 0", 1, 5);
                bad("fun " + c + "a 0", 1, 4);
                bad("fun a " + c, 1, 6);
            }
        });
        book.test("I", "a WORD of more than 6 letters", () -> {
            for (String[] place : NAME_PLACES) {
                bad(BASE + place[0] + "ppppppp" + place[1], 1, BASE.length() + place[0].length());
            }
            good(BASE + "fun pppppp 0");
            bad("fun " + "a".repeat(496), 1, 4);
            bad("funfunf a 0", 1, 0);
        });
        book.test("I", "two digits together (at the first byte of these)", () -> {
            bad("fun a   00", 1, 8);
            bad("fun a 0001", 1, 6);
            bad("10", 1, 0);
            bad("fun a 0;fun b 31;fun c 4", 1, 14);
        });
        book.test("I", "a TOKEN with which no TEXT goes on", this::grammar);
        book.test("I", "the end of the text (its place: how many bytes it has), if it ends too soon", () -> {
            String line = "term w=k(p,q,p)";
            bad(BASE, 1, BASE.length());
            for (int end = "term".length(); end < line.length(); end++) {
                int fault = line.substring(0, end).endsWith("=k") ? 5 : 1;
                bad(BASE + line.substring(0, end), fault, BASE.length() + end);
                bad(BASE + line.substring(0, end) + "  ", fault, BASE.length() + end + 2);
            }
            bad("fun", 1, 3);
            bad("fun a", 1, 5);
            bad("fun a ", 1, 6);
            bad(BASE + "same", 1, BASE.length() + 4);
            bad(BASE + "same p", 1, BASE.length() + 6);
            bad(BASE + "diff p ", 1, BASE.length() + 7);
        });
        book.test("I", "2 a WHOLE above 3", () -> {
            good("fun a 3");
            bad("fun a 4", 2, 6);
            bad("fun a 9;", 2, 6);
        });
        book.test("I", "3 a NAME told again, or one that isn't told ahead as what is asked there", this::wrongNames);
        book.test("I", "5 the ( , or ) , or the ; or the end in place of ( , with which a TERM has more or fewer PARTS than its FUNCTION takes "
                + "(of a FUNCTION that takes 0: the ( )", this::partCounts);
        book.test("I", "An empty text is FORM", () -> {
            bad("", 1, 0);
            bad(" ", 1, 1);
            bad(blanks(20), 1, 20);
        });
    }

    /** Each beginning of a LINE, then the TOKENS with which some TEXT goes on (n: a NAME, $: the end). */
    private void grammar() {
        String[][] beginnings = {{"", "fun term same diff"}, {"fun ", "n"}, {"fun w ", "0 4"}, {"fun w 0", "; $"}, {"term ", "n"},
            {"term w", "="}, {"term w=", "n"}, {"term w=z", "; $ ("}, {"term w=g", "; $ ("}, {"term w=g(", "n"},
            {"term w=h(p", ", )"}, {"term w=h(p,", "n"}, {"term w=h(p,q", ", )"}, {"term w=g(p)", "; $"}, {"same ", "n"},
            {"same p ", "n"}, {"same p q ", "; $"}, {"diff ", "n"}, {"diff p ", "n"}, {"diff p q ", "; $"}};
        String[] tokens = {"n w", "n p", "n z", "fun", "term", "same", "diff", "0", "4", ";", ",", "=", "(", ")", "$"};
        for (String[] beginning : beginnings) {
            for (String token : tokens) {
                String kind = token.startsWith("n ") ? "n" : token;
                String written = token.equals("$") ? "" : token.replace("n ", "");
                String ahead = BASE + beginning[0] + (written.isEmpty() ? "" : " ");
                ReasonCloser x = new ReasonCloser();
                Due.read(x, ahead + written);
                boolean formThere = x.fault() == 1 && x.where() == ahead.length();
                boolean goesOn = (" " + beginning[1] + " ").contains(" " + kind + " ");
                due.is("after \"" + beginning[0] + "\" the TOKEN " + token + " is FORM", formThere ? 1 : 0, goesOn ? 0 : 1);
            }
        }
    }

    private void wrongNames() {
        int at = BASE.length();
        bad(BASE + "fun z 1", 3, at + 4);
        bad(BASE + "fun p 1", 3, at + 4);
        bad(BASE + "term q=g(q)", 3, at + 5);
        bad(BASE + "term h=z", 3, at + 5);
        for (String[] place : NAME_PLACES) {
            boolean told = place[0].equals("fun ") || place[0].equals("term ");
            String asked = place[0].equals("term w=") ? "p" : "z";
            if (!told) {
                bad(BASE + place[0] + "x" + place[1], 3, at + place[0].length());
                bad(BASE + place[0] + asked + place[1], 3, at + place[0].length());
            }
        }
        bad(BASE + "term w=x;fun x 0", 3, at + 7);
        bad(BASE + "same p x;term x=z", 3, at + 7);
        bad(BASE + "term w=w", 3, at + 7);
        good(BASE + "fun x 0;term w=x;same w w;diff w p");
    }

    private void partCounts() {
        int at = BASE.length() + 8;
        bad(BASE + "term w=z(", 5, at);
        bad(BASE + "term w=z (p)", 5, at + 1);
        for (String name : new String[] {"g", "h", "k"}) {
            bad(BASE + "term w=" + name, 5, at);
            bad(BASE + "term w=" + name + "  ", 5, at + 2);
            bad(BASE + "term w=" + name + ";", 5, at);
            bad(BASE + "term w=" + name + " ;same p q", 5, at + 1);
        }
        good(BASE + "term w=g(p)");
        bad(BASE + "term w=g(p,", 5, at + 2);
        bad(BASE + "term w=g(p,q)", 5, at + 2);
        bad(BASE + "term w=h(p)", 5, at + 2);
        good(BASE + "term w=h(p,q)");
        bad(BASE + "term w=h(p,q,p)", 5, at + 4);
        bad(BASE + "term w=k(p)", 5, at + 2);
        bad(BASE + "term w=k(p,q)", 5, at + 4);
        good(BASE + "term w=k(p,q,p)");
        bad(BASE + "term w=k(p,q,p,q)", 5, at + 6);
    }

    // ---- promises 1 to 5, 38

    private void calls() {
        book.test("1", "Nothing told.", () -> {
            ReasonCloser x = new ReasonCloser();
            due.is("trouble()", x.trouble(), 0);
            due.is("fault()", x.fault(), 0);
            due.is("where()", x.where(), -1);
            due.is("size()", x.size(), 0);
            for (int what = 0; what < 8; what++) {
                due.is("about(" + what + ")", x.about(what), what == 7 ? -2 : 0);
            }
            due.is("base()", x.base(), 0);
            due.is("core()", x.core(), -2);
            due.is("free()", x.free(), 0);
            due.is("undo()", x.undo() ? 1 : 0, 0);
            due.is("named(0)", Beside.named(x, 0), Beside.THROWN);
        });
        feeding();
        reading();
        faultAndWhere();
        book.test("38", "Bytes of THE TAPE.", () -> {
            ReasonCloser x = new ReasonCloser();
            due.is("none", x.size(), 0);
            for (int k = 1; k <= 25; k++) {
                x.feed(0, 0, 0, 0, 0);
                due.is("so many", x.size(), 20 * k);
            }
            x.feed(0, 0, 0, 0, 0);
            due.is("full", x.size(), 500);
            x.text(501);
            due.is("behind text() by 2", x.size(), 500);
            x.text(0);
            due.is("behind text() by 4", x.size(), 0);
            Due.read(x, "fun a 0");
            due.is("behind text()", x.size(), 0);
        });
    }

    private void feeding() {
        book.test("2", "Twenty bytes come behind THE TAPE, of each number the highest first", () -> {
            for (int at = 0; at < 20; at++) {
                ReasonCloser x = good("fun a 0;term p=a");
                int[] n = new int[5];
                for (int k = 0; k < 20; k++) {
                    n[k / 4] = n[k / 4] << 8 | (k == at ? 'p' : ' ');
                }
                x.feed(0x20202020, 0x20202020, 0x20202020, 0x20202020, 0x20202020);
                x.feed(n[0], n[1], n[2], n[3], n[4]);
                due.is("one NAME, behind byte " + at, Beside.named(x, 20 + at), Beside.THROWN);
                due.is("one NAME, with byte " + at, Beside.named(x, 21 + at), 0);
                due.is("one NAME, all bytes", Beside.named(x, 40), 0);
            }
            for (int number : new int[] {LOW, -1, 0, 1, TOP}) {
                ReasonCloser x = new ReasonCloser();
                due.is("feed " + number, x.feed(number, number, number, number, number), 20);
                due.is("feed " + number + " is no TEXT", x.text(20), -1);
                due.is("feed " + number + ": where()", x.where(), 0);
            }
        });
        book.test("2", "how many it has; NONE, and none comes, if there would be more than 500 (trouble() stays)", () -> {
            for (int before = 0; before < 6; before++) {
                ReasonCloser x = troubled(before);
                int place = x.where();
                int bytes = x.size();
                for (; bytes < 500; bytes += 20) {
                    due.is("bytes", x.feed(0x66756e20, 0x61203020, 0x20202020, 0x20202020, 0x20202020), bytes + 20);
                }
                due.is("the first that is too many", x.feed(LOW, 0, -1, 2, TOP), -1);
                due.is("another", x.feed(0x20202020, 0x20202020, 0x20202020, 0x20202020, 0x20202020), -1);
                due.is("size()", x.size(), 500);
                due.is("trouble()", x.trouble(), before);
                due.is("where()", x.where(), place);
            }
            ReasonCloser x = new ReasonCloser();
            Due.feed(x, "fun a 0" + blanks(492) + ";");
            x.feed(LOW, 0, -1, 2, TOP);
            due.is("the bytes that were there", x.text(500), -1);
            due.is("the last of these", x.where(), 500);
            due.is("fed again", x.feed(0x66756e20, 0x61203020, 0x20202020, 0x20202020, 0x20202020), 20);
            due.is("read again", x.text(7), 0);
        });
    }

    /** An object of 24 TERMS with each TROUBLE. */
    private static ReasonCloser troubled(int trouble) {
        ReasonCloser x = States.lone();
        switch (trouble) {
            case 1:
                x.height(24);
                break;
            case 2:
                x.text(-1);
                break;
            case 3:
                x.make(0, 0, 0, 0);
                break;
            case 4:
                Due.read(x, "fun a b");
                break;
            case 5:
                x.level(0, 1);
                break;
            default:
                break;
        }
        return x;
    }

    private void reading() {
        book.test("3", "The first n bytes of THE TAPE (it is empty then) are THE TEXT", () -> {
            String text = "fun a 0;term p=a;term q=a;";
            for (int n = 0; n <= 40; n++) {
                ReasonCloser x = new ReasonCloser();
                Due.feed(x, text);
                boolean whole = n == 7 || n == 16 || n == 25;
                due.is("text(" + n + ")", x.text(n), whole ? n / 9 : -1);
                due.is("text(" + n + "), then size()", x.size(), 0);
            }
            for (int n : new int[] {7, 16, 25}) {
                ReasonCloser x = new ReasonCloser();
                Due.feed(x, text.substring(0, n) + blanks(500 - n));
                due.is("with blanks to the end", x.text(500), n / 9);
            }
        });
        book.test("3", "all that there was is gone, no act can be undone: how many TERMS", () -> {
            for (String text : new String[] {"fun a 0", "fun a 0;term p=a", "fun o 0;" + lines("term z#=o", 24)}) {
                ReasonCloser x = States.full();
                x.text(0);
                int terms = text.length() < 8 ? 0 : text.length() < 20 ? 1 : 24;
                due.is("TERMS", Due.read(x, text), terms);
                due.is("FUNCTIONS", x.about(0), 1);
                due.is("SAMES", x.about(2), 0);
                due.is("DIFFS", x.about(3), 0);
                due.is("GROUPS", x.about(4), Math.min(1, terms));
                due.is("acts", x.about(5), 0);
                due.is("JOINS", x.about(6), Math.max(0, terms - 1));
                due.is("none CLASHES", x.about(7), -2);
                due.is("undo()", x.undo() ? 1 : 0, 0);
                due.is("base()", x.base(), 0);
                due.is("a NAME of TERMS ahead", namedWhole(x, "fu"), Beside.THROWN);
            }
        });
        book.test("3", "all that there was is gone", () -> {
            // whatever was read ahead, whole or torn, and asked for, there is just what the last TEXT tells
            String[] texts = {"fun a 0;fun g 1;term p=a;term q=g(p);term r=g(q);same p q;diff p r;diff r r", "fun z 0;term p=z",
                "fun a 0;fun b 0;fun g 1;term p=a;term q=b;term r=g(p);term s=g(q);same q p;diff q s;same s q",
                "fun a 0;fun g 1;term p=a;term q=g(p);same p q;diff p q;same p", "fun a 0;fun b 0;fun a 0", "fun a 1"};
            for (int code = 0; code < 6 * 6 * 6; code++) {
                int[] order = {code / 36, code / 6 % 6, code % 6};
                String last = texts[order[2] % 3];
                new Beside(due, () -> Due.object(last)).same("texts " + code, () -> {
                    ReasonCloser x = Due.object(texts[1]);
                    for (int k : order) {
                        x.make(0, 0, 0, 0);
                        x.join(0, 0);
                        x.part(0, 0);
                        x.cost(0, x.about(1) - 1);
                        x.fewest(0, 0);
                        Due.read(x, k == order[2] ? last : texts[k]);
                    }
                    return x;
                }, () -> Due.object(last), true);
            }
        });
        book.test("3", "2 (n)", () -> {
            // the bytes behind those that there are were a TEXT's once
            ReasonCloser old = new ReasonCloser();
            Due.feed(old, "fun a 0;term p=a" + blanks(484));
            old.text(500);
            Due.feed(old, "fun a 0;term p=a");
            for (int n : new int[] {21, 22, 40, 500, 501, TOP}) {
                due.is("text(" + n + ") of 20", old.text(n), -1);
                due.is("text(" + n + ") of 20, then trouble()", old.trouble(), 2);
            }
            Due.feed(old, blanks(480));
            due.is("text(501) of 500", old.text(501), -1);
            due.is("text(501) of 500, then trouble()", old.trouble(), 2);
            due.is("text(500) of 500", old.text(500), 1);
            ReasonCloser x = new ReasonCloser();
            due.is("text(1) of none", x.text(1), -1);
            due.is("trouble()", x.trouble(), 2);
            Due.feed(x, "fun a 0");
            due.is("text(21) of 20", x.text(21), -1);
            due.is("trouble()", x.trouble(), 2);
            due.is("text(20) of 20", x.text(20), 0);
            due.is("text(0) of none is a FAULT", x.text(0), -1);
            due.is("trouble()", x.trouble(), 4);
        });
    }

    private static int namedWhole(ReasonCloser x, String tape) {
        Due.feed(x, tape);
        return Beside.named(x, x.size());
    }

    private void faultAndWhere() {
        book.test("4", "The FAULT of the latest text() not refused by 2; 0 without one, ahead of any.", () -> {
            ReasonCloser x = new ReasonCloser();
            due.is("ahead of any", x.fault(), 0);
            x.text(-1);
            due.is("behind one refused by 2", x.fault(), 0);
            String[] torn = {"", "fun a 4", "fun a 0;fun a 0", lines("fun # 0", 8) + ";fun i 0", "fun g 1;term p=g"};
            for (int fault = 1; fault <= 5; fault++) {
                Due.read(x, torn[fault - 1]);
                due.is("of " + torn[fault - 1], x.fault(), fault);
                x.text(99);
                due.is("behind one refused by 2", x.fault(), fault);
                x.about(0);
                x.term(99, 0);
                due.is("behind other calls", x.fault(), fault);
            }
            Due.read(x, "fun a 0");
            due.is("without one", x.fault(), 0);
        });
        book.test("5", "Its place, if the latest call that may be refused was by 4; NONE else.", () -> {
            ReasonCloser x = new ReasonCloser();
            due.is("ahead of any", x.where(), -1);
            x.text(0);
            due.is("the first byte", x.where(), 0);
            Due.read(x, "fun a 0" + blanks(492) + ";");
            due.is("the end of a full TAPE", x.where(), 500);
            Due.read(x, "fun a 0" + blanks(492) + "#");
            due.is("the last byte of a full TAPE", x.where(), 499);
            callsBehindAFault();
        });
        book.test("III", "TROUBLE of the latest call that may be refused (those of which a number is told here)", this::callsBehindAFault);
        book.test("III", "text() by 4 empties THE TAPE, too, and tells fault()", () -> {
            ReasonCloser x = States.mixed();
            due.is("FORM", x.text(4), -1);
            due.is("size()", x.size(), 0);
            due.is("fault()", x.fault(), 1);
            due.is("where()", x.where(), 4);
            due.is("trouble()", x.trouble(), 4);
        });
    }

    private static ReasonCloser faulty() {
        ReasonCloser x = States.mixed();
        x.text(0);
        Due.read(x, "fun a 9");
        return x;
    }

    /** Each call behind a FAULT at 6: those that may be refused take where() and trouble() away, others leave them. */
    private void callsBehindAFault() {
        Beside.Ask[] mayBe = CALLS_THAT_MAY_BE_REFUSED;
        due.is("calls that may be refused", mayBe.length, 28);
        for (int k = 0; k < mayBe.length; k++) {
            ReasonCloser x = faulty();
            long told = mayBe[k].of(x);
            due.yes("call " + k + " isn't refused", told != -1);
            due.is("call " + k + ", then trouble()", x.trouble(), 0);
            due.is("call " + k + ", then where()", x.where(), -1);
        }
        Beside.Ask[] mayNot = {x -> x.feed(0, 0, 0, 0, 0), ReasonCloser::fault, ReasonCloser::where, ReasonCloser::base,
            ReasonCloser::core, ReasonCloser::free, x -> x.undo() ? 1 : 0, x -> Beside.named(x, 0), x -> Beside.named(x, -1),
            ReasonCloser::size, ReasonCloser::trouble, TextBoundaries::fedOver, TextBoundaries::undoneAll, TextBoundaries::named};
        for (int k = 0; k < mayNot.length; k++) {
            ReasonCloser x = faulty();
            mayNot[k].of(x);
            due.is("other call " + k + ", then trouble()", x.trouble(), 4);
            due.is("other call " + k + ", then where()", x.where(), 6);
            due.is("other call " + k + ", then fault()", x.fault(), 2);
        }
    }

    private static long fedOver(ReasonCloser x) {
        for (int k = 0; k < 26; k++) {
            x.feed(0, 0, 0, 0, 0);
        }
        return x.size();
    }

    private static long undoneAll(ReasonCloser x) {
        for (int k = 0; k < 46; k++) {
            x.undo();
        }
        return 0;
    }

    private static long named(ReasonCloser x) {
        return namedWhole(x, "f");
    }

    // ---- promise 37

    private void names() {
        String text = "fun a 0;fun abcdef 0;term p=a;term abcde=a;term aaaaaa=abcdef";
        book.test("37", "The TERM whose NAME lies in the first n bytes of THE TAPE (which stays; blanks ahead of it, behind it aside).",
                () -> {
                    String[] tapes = {"p", " p", "p ", blanks(9) + "p", blanks(499) + "p", "p" + blanks(499), "  abcde  ", "aaaaaa"};
                    for (String tape : tapes) {
                        ReasonCloser x = good(text);
                        Due.feed(x, tape);
                        String name = tape.strip();
                        int t = name.equals("p") ? 0 : name.equals("abcde") ? 1 : 2;
                        int behind = tape.indexOf(name) + name.length();
                        due.is(name + " behind " + tape.indexOf(name), Beside.named(x, behind), t);
                        due.is(name + ", a byte less", Beside.named(x, behind - 1), Beside.THROWN);
                        due.is(name + ", all bytes", Beside.named(x, x.size()), t);
                        due.is(name + ", once more", Beside.named(x, behind), t);
                        due.is("THE TAPE stays", x.size(), (tape.length() + 19) / 20 * 20);
                    }
                });
        book.test("37", "NoSuchElementException if there is none such (n can't be, too).", () -> {
            for (String tape : new String[] {"", "   ", "a", "abcdef", "fun", "term", "abcd", "q", "pp", "p p", "p,", ";p", "p1", "1",
                "P", "aaaaaaa", "aaaaaap", "abcdeabcde", "p" + (char) 0, "" + (char) 240}) {
                ReasonCloser x = good(text);
                x.reasons(0, 99);
                Due.feed(x, tape);
                due.is("named of \"" + tape + "\"", Beside.named(x, x.size()), Beside.THROWN);
                due.is("THE TAPE stays", x.size(), (tape.length() + 19) / 20 * 20);
                due.is("trouble() stays", x.trouble(), 1);
            }
            ReasonCloser x = good(text);
            Due.feed(x, "p");
            for (int n : new int[] {LOW, -1, 0, 21, 500, 501, TOP}) {
                due.is("named(" + n + ")", Beside.named(x, n), Beside.THROWN);
            }
            due.is("named(20)", Beside.named(x, 20), 0);
            due.is("named(1)", Beside.named(x, 1), 0);
            Due.feed(x, blanks(480));
            due.is("named(500) of 500", Beside.named(x, 500), 0);
            due.is("named(501) of 500", Beside.named(x, 501), Beside.THROWN);
            x.text(0);
            Due.feed(x, "p");
            for (int n : new int[] {21, 22, 500, 501, TOP}) {
                due.is("named(" + n + ") of 20, once 500", Beside.named(x, n), Beside.THROWN);
            }
            for (String tape : new String[] {"", " ", ";", "a a", "abcdefg", "b", "aa", "aaaaaaa"}) {
                x = good("fun z 0;term a=z");
                Due.feed(x, tape);
                due.is("no NAME of the TERM a: " + tape, Beside.named(x, x.size()), Beside.THROWN);
                x = good("fun z 0;term a=z");
                due.is("the NAME of the TERM a", namedWhole(x, "a"), 0);
            }
            due.is("on an object without TERMS", namedWhole(new ReasonCloser(), "p"), Beside.THROWN);
            x = good("fun a 0");
            x.make(0, 0, 0, 0);
            for (String tape : new String[] {"", " ", "a", "b"}) {
                due.is("a made TERM has no NAME: " + tape, namedWhole(x, tape), Beside.THROWN);
                x.text(x.size());
            }
            due.is("by that text() nothing changed", x.about(1), 1);
        });
    }
}
